/-! start, written, onPaper, isAllAsTold -/
section SCORES
variable {m : Mem} {K : Option SV → Mem → Prop} {sc i sn j : Nat} {kp : Bool} {pc : Int} {tm : Nat → Int} {D : Dt}
def AV (sc : Nat) (kp : Bool) : Nat → Nat → Nat → Prop := fun t n k => AQ sc kp t n k ∨ (t = 4 ∧ n = 4 ∧ (k = 3 ∨ k = 6))
def BV (sc : Nat) : Nat → Nat → Nat → Prop := fun t n k => BQ sc t n k ∨ (t = 4 ∧ n = 4 ∧ (k = 4 ∨ k = 5))
def PW (m : Mem) (sc sn : Nat) (kp : Bool) (tm : Nat → Int) (D : Dt) (j : Nat) : Prop :=
  (tmOK tm ∧ DOK D) ∧ (sc + 5 < nX m ∧ sn + 99 < nX m ∧ 26 < nX m) ∧ (∀ k, k < 7 → gI m 5 5 k = iZ (tm k)) ∧ SRep m sn D ∧ gI m 6 sc 0 = (if kp then 1 else 0) ∧ (kp = true → RowsG m sc j)
theorem nAV {t n k : Nat} (h : t = 5 ∨ t = 8 ∨ t = 9 ∨ t = 10 ∨ t = 11 ∨ t = 12) : ¬ AV sc kp t n k := by
  rintro (z | z)
  · exact nAQ (by omega) z
  · omega
theorem FX.gI_gt {A B : Nat → Nat → Nat → Prop} {a b : Mem} {t n k : Nat} (F : FX A B a b) (hn : n < nX a) (hA : ¬ A t n k) : gI b t n k = gI a t n k := F.2.1 t n k hn hA
theorem PW.fx {m' : Mem} {j' : Nat} {A B : Nat → Nat → Nat → Prop} (h : PW m sc sn kp tm D j) (F : FX A B m m') (hA : ∀ t n k, t = 5 ∨ t = 8 ∨ t = 9 ∨ t = 10 ∨ t = 12 → ¬ A t n k) (h60 : ¬ A 6 sc 0) (hG : kp = true → RowsG m' sc j') : PW m' sc sn kp tm D j' := by
  obtain ⟨h1, ⟨n1, n2, n3⟩, ht, hS, h0, _⟩ := h
  have hl := F.1
  exact ⟨h1, ⟨by omega, by omega, by omega⟩, fun k hk => (F.2.1 5 5 k (by omega) (hA _ _ _ (by omega))).trans (ht k hk), hS.fx h1.2 F n2 (fun n k => hA _ _ _ (by omega)) (fun n k => hA _ _ _ (by omega)) (fun n k => hA _ _ _ (by omega)) (fun n k => hA _ _ _ (by omega)), (F.2.1 6 sc 0 (by omega) h60).trans h0, hG⟩
theorem AV60 : ¬ AV sc kp 6 sc 0 := by
  rintro (z | z)
  · unfold AQ at z; omega
  · omega
theorem c_start {x : Int32} (hx : x = iZ pc) (hpc : 0 ≤ pc ∧ pc ≤ 400) (hP : PW m sc sn kp tm D j)
    (h : ∀ m', WE m' sc sn kp tm pc D j → ScR m' sc kp tm pc D 0 → PW m' sc sn kp tm D j → FX (AV sc kp) (BV sc) m m' → (nX m' = nX m ∧ nS m' = nS m) → gI m' 4 4 3 = gI m 4 4 3 → K none m') : smC true 62 [vR (some (4, 4)), vR (some (10, sn)), vR (some (6, sc)), vI x] m K := by
  subst hx
  obtain ⟨⟨htm, hD⟩, ⟨n1, n2, n3⟩, ht, hS, h0, hG⟩ := id hP
  refine smC_wp [some (vR (some (4, 4))), some (vR (some (10, sn))), some (vR (some (6, sc))), some (vI (iZ pc))] cd_62 [] 60 OK_62 (by decide) rfl rfl (Nat.le_of_ble_eq_true rfl) ?_
  refine Exists.intro (some (6, sc)) (And.intro rfl ?_)
  have F1 : FX (AV sc kp) (BV sc) m (sI (sP (sP m 4 4 4 (some (10, sn))) 4 4 5 (some (6, sc))) 4 4 6 (iZ pc)) := ((FX.stP (Or.inr ⟨rfl, rfl, Or.inl rfl⟩)).tr (FX.stP (Or.inr ⟨rfl, rfl, Or.inr rfl⟩))).tr (FX.stI (Or.inr ⟨rfl, rfl, Or.inr rfl⟩))
  have G1 : FX (fun t n k => t = 4 ∧ n = 4 ∧ k = 6) (fun t n k => t = 4 ∧ n = 4 ∧ (k = 4 ∨ k = 5)) m (sI (sP (sP m 4 4 4 (some (10, sn))) 4 4 5 (some (6, sc))) 4 4 6 (iZ pc)) := ((FX.stP ⟨rfl, rfl, Or.inl rfl⟩).tr (FX.stP ⟨rfl, rfl, Or.inr rfl⟩)).tr (FX.stI ⟨rfl, rfl, rfl⟩)
  have e6 : gI (sI (sP (sP m 4 4 4 (some (10, sn))) 4 4 5 (some (6, sc))) 4 4 6 (iZ pc)) 4 4 6 = iZ pc := by rw [gI_s, if_pos ⟨rfl, rfl, rfl⟩]
  have e4 : gP (sI (sP (sP m 4 4 4 (some (10, sn))) 4 4 5 (some (6, sc))) 4 4 6 (iZ pc)) 4 4 4 = some (10, sn) := rfl
  have e5 : gP (sI (sP (sP m 4 4 4 (some (10, sn))) 4 4 5 (some (6, sc))) 4 4 6 (iZ pc)) 4 4 5 = some (6, sc) := rfl
  have eX : nX (sI (sP (sP m 4 4 4 (some (10, sn))) 4 4 5 (some (6, sc))) 4 4 6 (iZ pc)) = nX m := rfl
  have eS : nS (sI (sP (sP m 4 4 4 (some (10, sn))) 4 4 5 (some (6, sc))) 4 4 6 (iZ pc)) = nS m := rfl
  have eL : ∀ n, gL (sI (sP (sP m 4 4 4 (some (10, sn))) 4 4 5 (some (6, sc))) 4 4 6 (iZ pc)) 20 n = gL m 20 n := fun _ => rfl
  generalize sI (sP (sP m 4 4 4 (some (10, sn))) 4 4 5 (some (6, sc))) 4 4 6 (iZ pc) = m1 at *
  have RG1 : kp = true → RowsG m1 sc j := by
    intro z
    obtain ⟨a1, a2, a3, a4, ⟨⟨p1, p2, p3, p4⟩, ⟨l1, l2, l3, l4⟩, q2⟩, h2, h3⟩ := hG z
    have g : ∀ k, gP m1 6 sc k = gP m 6 sc k := fun k => G1.2.2.1 6 sc k (by omega) (fun z => absurd z.1 (by decide))
    exact ⟨a1, a2, a3, a4, ⟨⟨(g 2).trans p1, (g 3).trans p2, (g 4).trans p3, (g 5).trans p4⟩, ⟨(eL _).trans l1, (eL _).trans l2, (eL _).trans l3, (eL _).trans l4⟩, q2⟩, by rw [eX]; exact h2, h3⟩
  have P1 : PW m1 sc sn kp tm D j := hP.fx F1 (fun t n k z => nAV (by omega)) AV60 RG1
  refine And.intro trivial (c_clear (kp := kp) P1.2.2.2.2.1 (fun z => ?_) (fun m2 R2 z2 F2 => ?_))
  · obtain ⟨a1, a2, a3, a4, q, _⟩ := RG1 z
    exact ⟨a1, a2, a3, a4, _, q⟩
  have F2' : FX (AV sc kp) (BV sc) m1 m2 := by
    refine (F2.mono ?_).fx
    rintro t n k ⟨rfl, rfl, z⟩
    refine Or.inl ?_
    simp [AQ]; omega
  have RG2 : kp = true → RowsG m2 sc j := fun z => (RG1 z).kept F2.1
  have P2 := P1.fx F2' (fun t n k z => nAV (by omega)) AV60 RG2
  have x2 : nX m2 = nX m1 := by unfold nX; rw [F2.1]
  have s2 : nS m2 = nS m1 := by unfold nS; rw [F2.1]
  refine And.intro trivial (h m2 ⟨⟨htm, hpc, hD⟩, P2.2.1, ⟨(Fr_gP F2 4 4 5).trans e5, (Fr_gP F2 4 4 4).trans e4⟩, (F2.2 4 4 6 (by simp)).trans e6, P2.2.2.1, P2.2.2.2.1, RG2⟩ ⟨⟨0, R2⟩, ⟨fun z => absurd z (by simp [wr]), fun t z => by simp [wr] at z⟩, fun q hq => by omega, z2.1, z2.2⟩ P2 (F1.tr F2') ⟨by omega, by omega⟩ ?_)
  rw [F2.2 4 4 3 (by simp)]
  exact G1.2.1 4 4 3 (by omega) (by omega)
end SCORES
