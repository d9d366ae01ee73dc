/-! the loops over the notes -/
section WRITTEN
variable {m : Mem} {K : Option SV → Mem → Prop} {sc i sn j : Nat} {kp : Bool} {pc : Int} {tm : Nat → Int} {D : Dt}
/-- what holds between the notes of a writing that began in m0 -/
def WL (m0 m : Mem) (sc sn : Nat) (kp : Bool) (tm : Nat → Int) (pc : Int) (D : Dt) (j0 n : Nat) : Prop :=
  ∃ j, j0 ≤ j ∧ WE m sc sn kp tm pc D j ∧ ScR m sc kp tm pc D n ∧ PW m sc sn kp tm D j ∧ FX (AV sc kp) (BV sc) m0 m ∧ nX m + 4 * j0 = nX m0 + 4 * j ∧ nS m + 14016 * j0 ≤ nS m0 + 14016 * j ∧ (gI m 4 4 3 = gI m0 4 4 3 ∧ (kp = false → j = j0))
theorem WL.step {m0 : Mem} {j0 n : Nat} {x : Int32} (hx : x = iZ n) (hn : n < D.1) (h0 : WL m0 m sc sn kp tm pc D j0 n) (h : ∀ m', WL m0 m' sc sn kp tm pc D j0 (n + 1) → K none m') : smC true 63 [vR (some (4, 4)), vI x] m K := by
  obtain ⟨j, hj, hE, hS, hP, hF, q1, q2, q3⟩ := h0
  refine c_writeNote hx hE hn hS (fun m' j' hj' hE' hS' F' x' s' hkj => ?_)
  have F2 : FX (AV sc kp) (BV sc) m m' := F'.mono (fun t n k z => Or.inl z) (fun t n k z => Or.inl z)
  refine h m' ⟨j', by omega, hE', hS', hP.fx F2 (fun t n k z => nAV (by omega)) AV60 hE'.2.2.2.2.2.2, hF.tr F2, by omega, by omega, ?_, fun z => (hkj z).trans (q3.2 z)⟩
  rw [F'.2.1 4 4 3 (by have := hE.2.1; omega) (by unfold AQ; omega)]; exact q3.1
theorem c_written {st : Bool} (hP : PW m 6 sn true tm D j) (hst : gI m 4 4 3 = (if st then 1 else 0)) (hc : st = false → ScR m 6 true tm (tm 5) D D.1)
    (h : ∀ m' j', j ≤ j' → PW m' 6 sn true tm D j' → ScR m' 6 true tm (tm 5) D D.1 → FX (AV 6 true) (BV 6) m m' → nX m' + 4 * j = nX m + 4 * j' → nS m' + 14016 * j ≤ nS m + 14016 * j' → gI m' 4 4 3 = 0 → K (some (vR (some (6, 6)))) m') : smC true 61 [vR (some (4, 4)), vR (some (10, sn))] m K := by
  have ht5 := hP.1.1.2.2.2.2.2.1
  have hD := hP.1.2.1
  refine smC_wp [some (vR (some (4, 4))), some (vR (some (10, sn))), none] cd_61 [24] 60 OK_61 (by decide) rfl rfl (Nat.le_of_ble_eq_true rfl) ?_
  cases st with
  | false =>
    refine And.intro (fun _ => ?_) (fun z => absurd hst z)
    exact And.intro trivial (h m j (Nat.le_refl _) hP (hc rfl) (FX.rf _ _ _) rfl (Nat.le_refl _) hst)
  | true =>
    refine And.intro (fun z => absurd (hst.symm.trans z) (by decide)) (fun _ => ?_)
    refine And.intro (by rw [L5, iZ_in (by decide)]; decide) ?_
    refine And.intro trivial (c_start (sc := 6) (kp := true) (pc := tm 5) (hP.2.2.1 5 (by decide)) (by omega) hP (fun m1 E1 S1 P1 F1 x1 z1 => ?_))
    refine And.intro trivial ?_
    have hW : WL m m1 6 sn true tm (tm 5) D j 0 := ⟨j, Nat.le_refl _, E1, S1, P1, F1, by omega, by omega, z1, fun _ => rfl⟩
    clear z1 x1 F1 P1 S1 E1
    have loop : ∀ q n m1, n + q = D.1 → WL m m1 6 sn true tm (tm 5) D j n → smE true 61 24 [some (vR (some (4, 4))), some (vR (some (10, sn))), some (vI (iZ n))] [] m1 K := by
      intro q
      induction q with
      | zero =>
        intro n m1 e hW
        obtain ⟨j', hj, hE, hS, hP', hF, q1, q2, q3⟩ := hW
        refine wp1_ok (by decide) OK_61 (cc := cd_61) rfl (stops := [24]) (f := 30) ?_
        refine And.intro (fun _ => ?_) (fun z => ?_)
        · refine And.intro (Or.inl rfl) ?_
          have Fs : FX (AV 6 true) (BV 6) m1 (sI m1 4 4 3 0) := FX.stI (Or.inr ⟨rfl, rfl, Or.inl rfl⟩)
          have en : n = D.1 := by omega
          subst en
          refine And.intro trivial (h _ j' hj (hP'.fx Fs (fun t n k z => nAV (by omega)) AV60 (fun z => (hE.2.2.2.2.2.2 z).kept rfl)) ?_ (hF.tr Fs) q1 q2 (by rw [gI_s, if_pos ⟨rfl, rfl, rfl⟩]))
          obtain ⟨⟨cap, c1⟩, c2, c3, c4, c5⟩ := hS
          have Fr1 : Fr (fun t n k => t = 4 ∧ n = 4 ∧ k = 3) m1 (sI m1 4 4 3 0) := Fr.st ⟨rfl, rfl, rfl⟩
          refine ⟨⟨cap, c1.fr Fr1 (fun k _ => by omega) (fun n k => by omega)⟩, c2, fun q hq => (c3 q hq).fr hE.2.1.1 (Fr1.fx (B := N3)) (by omega) (by omega) ⟨by omega, by omega, by omega⟩ (by omega) (by omega), (Fr1.2 6 6 10 (by omega)).trans c4, (Fr1.2 6 6 11 (by omega)).trans c5⟩
        · rw [hE.2.2.2.2.2.1.1.1, iZ_le (by constructor <;> omega) (by constructor <;> omega)] at z
          omega
      | succ q ih =>
        intro n m1 e hW
        obtain ⟨j', hj, hE, hS, hP', hF, q1, q2, q3⟩ := id hW
        refine wp1_ok (by decide) OK_61 (cc := cd_61) rfl (stops := [24]) (f := 30) ?_
        refine And.intro (fun z => ?_) (fun z => ?_)
        · rw [hE.2.2.2.2.2.1.1.1, iZ_le (by constructor <;> omega) (by constructor <;> omega)] at z
          omega
        · refine And.intro trivial (hW.step rfl (by omega) (fun m2 W2 => ?_))
          refine And.intro trivial ?_
          rw [L1, iZ_add]
          exact ih (n + 1) m2 (by omega) W2
    exact loop D.1 0 m1 (by omega) hW
theorem c_onPaper {many : Int} {x y : Int32} (hx : x = iZ pc) (hy : y = iZ many) (rm : R32 many) (hpc : 0 ≤ pc ∧ pc ≤ 400) (hP : PW m 16 sn false tm D 0)
    (h : ∀ m', WL m m' 16 sn false tm pc D 0 (min many.toNat D.1) → K (some (vR (some (6, 16)))) m') : smC true 86 [vR (some (4, 4)), vR (some (10, sn)), vI x, vI y] m K := by
  subst hx; subst hy
  have hD := hP.1.2.1
  refine smC_wp [some (vR (some (4, 4))), some (vR (some (10, sn))), some (vI (iZ pc)), some (vI (iZ many)), none] cd_86 [13] 60 OK_86 (by decide) rfl rfl (Nat.le_of_ble_eq_true rfl) ?_
  refine And.intro trivial (c_start (sc := 16) (kp := false) (pc := pc) rfl hpc hP (fun m1 E1 S1 P1 F1 x1 z1 => ?_))
  refine And.intro trivial ?_
  have hW : WL m m1 16 sn false tm pc D 0 0 := ⟨0, Nat.le_refl _, E1, S1, P1, F1, by omega, by omega, z1, fun _ => rfl⟩
  clear z1 x1 F1 P1 S1 E1
  have loop : ∀ q n m1, n + q = min many.toNat D.1 → WL m m1 16 sn false tm pc D 0 n → smE true 86 13 [some (vR (some (4, 4))), some (vR (some (10, sn))), some (vI (iZ pc)), some (vI (iZ many)), some (vI (iZ n))] [] m1 K := by
    intro q
    induction q with
    | zero =>
      intro n m1 e hW
      have eS := hW.choose_spec.2.1.2.2.2.2.2.1.1.1
      have fin : K (some (vR (some (6, 16)))) m1 := by
        have en : n = min many.toNat D.1 := by omega
        subst en
        exact h m1 hW
      refine wp1_ok (by decide) OK_86 (cc := cd_86) rfl (stops := [13]) (f := 30) ?_
      refine And.intro (fun _ => ?_) (fun z => ?_)
      · exact And.intro trivial fin
      · rw [iZ_le rm (by constructor <;> omega)] at z
        refine And.intro (fun _ => And.intro trivial fin) (fun y => ?_)
        rw [eS, iZ_le (by constructor <;> omega) (by constructor <;> omega)] at y
        omega
    | succ q ih =>
      intro n m1 e hW
      have eS := hW.choose_spec.2.1.2.2.2.2.2.1.1.1
      refine wp1_ok (by decide) OK_86 (cc := cd_86) rfl (stops := [13]) (f := 30) ?_
      refine And.intro (fun z => ?_) (fun z => ?_)
      · rw [iZ_le rm (by constructor <;> omega)] at z
        omega
      · refine And.intro (fun y => ?_) (fun y => ?_)
        · rw [eS, iZ_le (by constructor <;> omega) (by constructor <;> omega)] at y
          omega
        · refine And.intro trivial (hW.step rfl (by omega) (fun m2 W2 => ?_))
          refine And.intro trivial ?_
          rw [L1, iZ_add]
          exact ih (n + 1) m2 (by omega) W2
  exact loop (min many.toNat D.1) 0 m1 (by omega) hW
def atN (v : Int × Int × Int) : Prop := v.1 ≤ 1 ∧ v.2.1 ≤ 1 ∧ v.2.2 ≤ 1
theorem c_isAsTold {n0 n1 o a : Int} {v : Int × Int × Int} {x : Int32} (hx : x = iZ i) (hi : i < 48) (hR : Res m sc i n0 n1 v o a) (rv : (0 ≤ v.1 ∧ v.1 ≤ 3) ∧ (0 ≤ v.2.1 ∧ v.2.1 ≤ 3) ∧ 0 ≤ v.2.2 ∧ v.2.2 ≤ 3)
    (h1 : atN v → K (some (vI 1)) m) (h0 : ¬ atN v → K (some (vI 0)) m) : smC true 50 [vR (some (6, sc)), vI x] m K := by
  subst hx
  obtain ⟨_, _, ⟨a1, a2, a3⟩, _⟩ := hR
  have e3 : (3 : Int32) * iZ (i : Int) = iZ ((3 * i : Nat) : Int) := by rw [L3, iZ_mul]; congr 1
  have c0 : (iZ ((3 * i : Nat) : Int)).toNatClampNeg = 3 * i := by rw [iZ_clamp (by constructor <;> omega)]; omega
  have e1 : iZ ((3 * i : Nat) : Int) + 1 = iZ ((3 * i + 1 : Nat) : Int) := by rw [L1, iZ_add]; congr 1
  have c1 : (iZ ((3 * i + 1 : Nat) : Int)).toNatClampNeg = 3 * i + 1 := by rw [iZ_clamp (by constructor <;> omega)]; omega
  have e2 : iZ ((3 * i : Nat) : Int) + 2 = iZ ((3 * i + 2 : Nat) : Int) := by rw [L2, iZ_add]; congr 1
  have c2 : (iZ ((3 * i + 2 : Nat) : Int)).toNatClampNeg = 3 * i + 2 := by rw [iZ_clamp (by constructor <;> omega)]; omega
  refine smC_wp [some (vR (some (6, sc))), some (vI (iZ i)), none] cd_50 [4] 60 OK_50 (by decide) rfl rfl (Nat.le_of_ble_eq_true rfl) ?_
  refine And.intro trivial ?_
  rw [e3]
  refine wp1_ok (by decide) OK_50 (cc := cd_50) rfl (stops := []) (f := 60) ?_
  refine And.intro ((iZ_in (by constructor <;> omega)).mpr (by omega)) ?_
  rw [c0, a1]
  refine And.intro (fun z => ?_) (fun z => ?_)
  · rw [L1, iZ_lt (by decide) (by constructor <;> omega)] at z
    exact And.intro (Or.inl rfl) (h0 (by unfold atN; omega))
  rw [L1, iZ_lt (by decide) (by constructor <;> omega)] at z
  refine And.intro (by rw [e1]; exact (iZ_in (by constructor <;> omega)).mpr (by omega)) ?_
  rw [e1, c1, a2]
  refine And.intro (fun y => ?_) (fun y => ?_)
  · rw [L1, iZ_lt (by decide) (by constructor <;> omega)] at y
    exact And.intro (Or.inl rfl) (h0 (by unfold atN; omega))
  rw [L1, iZ_lt (by decide) (by constructor <;> omega)] at y
  refine And.intro (by rw [e2]; exact (iZ_in (by constructor <;> omega)).mpr (by omega)) ?_
  rw [e2, c2, a3]
  refine And.intro (fun w => ?_) (fun w => ?_)
  · rw [L1, iZ_lt (by decide) (by constructor <;> omega)] at w
    exact And.intro (Or.inl rfl) (h0 (by unfold atN; omega))
  rw [L1, iZ_lt (by decide) (by constructor <;> omega)] at w
  exact And.intro (Or.inr rfl) (h1 (by unfold atN; omega))
theorem wN_v {f : NF} {nx : NX} {s : WS} (h : NOK f) (hT : 8 ≤ wT tm pc f ∧ wT tm pc f ≤ 2000) : (0 ≤ (wN tm pc f nx i s).2.1.1 ∧ (wN tm pc f nx i s).2.1.1 ≤ 3) ∧ (0 ≤ (wN tm pc f nx i s).2.1.2.1 ∧ (wN tm pc f nx i s).2.1.2.1 ≤ 3) ∧ 0 ≤ (wN tm pc f nx i s).2.1.2.2 ∧ (wN tm pc f nx i s).2.1.2.2 ≤ 3 := by
  unfold wN
  split
  · have h1 := preS_ok (i := i) (P := Pk (tm 3) f) (g := nGr f) (ah := tm 2) (qa := decide (qk (tm 0) (f 9) pc (apL (f 5)))) (s := s) hT h.2.2.1 h.2.2.2.2.2.2.2.2.1
    have ok2 : bOK (wB tm pc f nx (wP tm pc f i s).2.1 (f 5 - (wP tm pc f i s).2.2.1)) := bodS_ok (by omega)
    have h3 := behS_ok (i := i) (T := wT tm pc f) (bh := f 12) (nx := nx) (ab := (wB tm pc f nx (wP tm pc f i s).2.1 (f 5 - (wP tm pc f i s).2.2.1)).2.2) (s := wC i (Pk (tm 3) f 0) (f 5 - (wP tm pc f i s).2.2.1) (wB tm pc f nx (wP tm pc f i s).2.1 (f 5 - (wP tm pc f i s).2.2.1)) (wP tm pc f i s).2.1)
    refine ⟨h1.1, ?_, h3.1⟩
    rcases ok2.2 with ⟨z, _⟩ | ⟨z, _⟩
    · show 0 ≤ (wB tm pc f nx (wP tm pc f i s).2.1 (f 5 - (wP tm pc f i s).2.2.1)).1 ∧ (wB tm pc f nx (wP tm pc f i s).2.1 (f 5 - (wP tm pc f i s).2.2.1)).1 ≤ 3
      omega
    · show 0 ≤ (wB tm pc f nx (wP tm pc f i s).2.1 (f 5 - (wP tm pc f i s).2.2.1)).1 ∧ (wB tm pc f nx (wP tm pc f i s).2.1 (f 5 - (wP tm pc f i s).2.2.1)).1 ≤ 3
      omega
  · simp
theorem c_isAllAsTold {x : Int32} (hx : x = iZ pc) (hpc : 0 ≤ pc ∧ pc ≤ 400) (hP : PW m 16 sn false tm D 0)
    (h1 : ∀ m' n, (∀ i, i < D.1 → atN (wq tm pc D i).2.1) → WL m m' 16 sn false tm pc D 0 n → K (some (vI 1)) m')
    (h0 : ∀ m' n, ¬ (∀ i, i < D.1 → atN (wq tm pc D i).2.1) → WL m m' 16 sn false tm pc D 0 n → K (some (vI 0)) m') : smC true 87 [vR (some (4, 4)), vR (some (10, sn)), vI x] m K := by
  subst hx
  have hD := hP.1.2.1
  refine smC_wp [some (vR (some (4, 4))), some (vR (some (10, sn))), some (vI (iZ pc)), none] cd_87 [12] 60 OK_87 (by decide) rfl rfl (Nat.le_of_ble_eq_true rfl) ?_
  refine And.intro trivial (c_start (sc := 16) (kp := false) (pc := pc) rfl hpc hP (fun m1 E1 S1 P1 F1 x1 z1 => ?_))
  refine And.intro trivial ?_
  have hW : WL m m1 16 sn false tm pc D 0 0 := ⟨0, Nat.le_refl _, E1, S1, P1, F1, by omega, by omega, z1, fun _ => rfl⟩
  clear z1 x1 F1 P1 S1 E1
  have loop : ∀ q n m1, n + q = D.1 → (∀ i, i < n → atN (wq tm pc D i).2.1) → WL m m1 16 sn false tm pc D 0 n → smE true 87 12 [some (vR (some (4, 4))), some (vR (some (10, sn))), some (vI (iZ pc)), some (vI (iZ n))] [] m1 K := by
    intro q
    induction q with
    | zero =>
      intro n m1 e ha hW
      have eS := hW.choose_spec.2.1.2.2.2.2.2.1.1.1
      refine wp1_ok (by decide) OK_87 (cc := cd_87) rfl (stops := [12]) (f := 30) ?_
      refine And.intro (fun _ => ?_) (fun z => ?_)
      · have en : n = D.1 := by omega
        subst en
        exact And.intro (Or.inr rfl) (h1 m1 _ ha hW)
      · rw [eS, iZ_le (by constructor <;> omega) (by constructor <;> omega)] at z
        omega
    | succ q ih =>
      intro n m1 e ha hW
      have eS := hW.choose_spec.2.1.2.2.2.2.2.1.1.1
      refine wp1_ok (by decide) OK_87 (cc := cd_87) rfl (stops := [12]) (f := 30) ?_
      refine And.intro (fun z => ?_) (fun z => ?_)
      · rw [eS, iZ_le (by constructor <;> omega) (by constructor <;> omega)] at z
        omega
      · refine And.intro trivial (hW.step rfl (by omega) (fun m2 W2 => ?_))
        have hr := W2.choose_spec.2.2.1.2.2.1 n (by omega)
        have hf := hP.1.2.2.1 n (by omega)
        refine And.intro trivial (c_isAsTold rfl (by omega) hr (wN_v hf (wT_rng hP.1.1 hf hpc)) (fun z => ?_) (fun z => ?_))
        · refine And.intro (fun _ => ?_) (fun w => absurd w (by decide))
          refine And.intro trivial ?_
          rw [L1, iZ_add]
          refine ih (n + 1) m2 (by omega) (fun i hi => ?_) W2
          by_cases e2 : i = n
          · subst e2; exact z
          · exact ha i (by omega)
        · refine And.intro (fun w => absurd rfl w) (fun _ => ?_)
          exact And.intro (Or.inl rfl) (h0 m2 _ (fun q => z (q n (by omega))) W2)
  exact loop D.1 0 m1 (by omega) (fun i hi => by omega) hW
end WRITTEN
