/-! writeNote from its first place -/
section WRITE3
variable {m : Mem} {K : Option SV → Mem → Prop} {sc i sn : Nat} {kp : Bool} {pc : Int} {tm : Nat → Int} {D : Dt}
def A7 : Nat → Nat → Nat → Prop := fun t n k => t = 4 ∧ n = 4 ∧ k = 7
def B89 : Nat → Nat → Nat → Prop := fun t n k => t = 4 ∧ n = 4 ∧ (k = 8 ∨ k = 9)
theorem RepS.fx {A B : Nat → Nat → Nat → Prop} {m' : Mem} {cap : Nat} {ts : List Tn} {lk : Bool} {cur : Int} (h : RepS m sc kp cap ts lk cur) (hs : sc < nX m) (hL : ∀ n, gL m' 20 n = gL m 20 n) (F : FX A B m m') (h6 : ∀ k, ¬ A 6 sc k) (hB : ∀ k, ¬ B 6 sc k) (h20 : ∀ n k, gI m' 20 n k = gI m 20 n k) : RepS m' sc kp cap ts lk cur := by
  refine h.keep (fun k => F.2.1 6 sc k hs (h6 k)) h.1.2.2.2.2 (fun z => ?_)
  obtain ⟨a1, a2, a3, a4, r, ⟨⟨p1, p2, p3, p4⟩, ⟨l1, l2, l3, l4⟩, q2⟩, q3, q4⟩ := h.1.2.2.2.1 z
  have g : ∀ k, gP m' 6 sc k = gP m 6 sc k := fun k => F.2.2.1 6 sc k hs (hB k)
  exact ⟨a1, a2, a3, a4, r, ⟨⟨(g 2).trans p1, (g 3).trans p2, (g 4).trans p3, (g 5).trans p4⟩, ⟨(hL _).trans l1, (hL _).trans l2, (hL _).trans l3, (hL _).trans l4⟩, q2⟩, q3, RV_keep (fun a k _ => h20 a k) q4⟩
theorem A7_AQ {t n k : Nat} (h : A7 t n k) : AQ sc kp t n k := Or.inl ⟨h.1, h.2.1, Or.inl h.2.2⟩
theorem B89_BQ {t n k : Nat} (h : B89 t n k) : BQ sc t n k := Or.inl h
theorem BO_BQ {t n k : Nat} (h : BO sc t n k) : BQ sc t n k := Or.inr h
theorem c_writeNote {j : Nat} {x : Int32} (hx : x = iZ i) (hE : WE m sc sn kp tm pc D j) (hi : i < D.1) (hc : ScR m sc kp tm pc D i)
    (h : ∀ m' j', j ≤ j' → WE m' sc sn kp tm pc D j' → ScR m' sc kp tm pc D (i + 1) → FX (AQ sc kp) (BQ sc) m m' → nX m' + 4 * j = nX m + 4 * j' → nS m' + 14016 * j ≤ nS m + 14016 * j' → (kp = false → j' = j) → K none m') : smC true 63 [vR (some (4, 4)), vI x] m K := by
  subst hx
  obtain ⟨⟨htm, hpc, hD⟩, ⟨n1, n2, n3⟩, ⟨g5, g4⟩, h6, ht, hS, hG⟩ := id hE
  have hD48 := hD.1
  have hlen := wr_len htm hpc hD i (by omega)
  have ei : (iZ (i : Int)).toNatClampNeg = i := by rw [iZ_clamp (by constructor <;> omega)]; omega
  refine smC_wp [some (vR (some (4, 4))), some (vI (iZ i)), none, none] cd_63 [18] 60 OK_63 (by decide) rfl rfl (Nat.le_of_ble_eq_true rfl) ?_
  refine Exists.intro _ (And.intro g4 ?_)
  refine And.intro ((iZ_in (by constructor <;> omega)).mpr (by omega)) ?_
  refine And.intro trivial ?_
  rw [ei]
  change smE true 63 18 [some (vR (some (4, 4))), some (vI (iZ i)), none, none] [] (sP (sI m 4 4 7 (iZ i)) 4 4 8 (some (8, sn + 1 + 2 + 2 * i))) K
  have F1 : FX A7 B89 m (sP (sI m 4 4 7 (iZ i)) 4 4 8 (some (8, sn + 1 + 2 + 2 * i))) := (FX.stI ⟨rfl, rfl, rfl⟩).tr (FX.stP ⟨rfl, rfl, Or.inl rfl⟩)
  have e8 : gP (sP (sI m 4 4 7 (iZ i)) 4 4 8 (some (8, sn + 1 + 2 + 2 * i))) 4 4 8 = some (8, sn + 1 + 2 + 2 * i) := by rw [gP_s, if_pos ⟨rfl, rfl, rfl⟩]
  have e7 : gI (sP (sI m 4 4 7 (iZ i)) 4 4 8 (some (8, sn + 1 + 2 + 2 * i))) 4 4 7 = iZ i := by show gI (sI m 4 4 7 (iZ i)) 4 4 7 = _; rw [gI_s, if_pos ⟨rfl, rfl, rfl⟩]
  have e20 : ∀ n k, gI (sP (sI m 4 4 7 (iZ i)) 4 4 8 (some (8, sn + 1 + 2 + 2 * i))) 20 n k = gI m 20 n k := by
    intro n k; show gI (sI m 4 4 7 (iZ i)) 20 n k = _; rw [gI_s, if_neg (by omega)]
  have eL : ∀ n, gL (sP (sI m 4 4 7 (iZ i)) 4 4 8 (some (8, sn + 1 + 2 + 2 * i))) 20 n = gL m 20 n := fun _ => rfl
  have eX : nX (sP (sI m 4 4 7 (iZ i)) 4 4 8 (some (8, sn + 1 + 2 + 2 * i))) = nX m := rfl
  have eS : nS (sP (sI m 4 4 7 (iZ i)) 4 4 8 (some (8, sn + 1 + 2 + 2 * i))) = nS m := rfl
  generalize sP (sI m 4 4 7 (iZ i)) 4 4 8 (some (8, sn + 1 + 2 + 2 * i)) = m1 at *
  have S1 : SRep m1 sn D := hS.fx hD F1 n2 (fun n k z => absurd z.1 (by decide)) (fun n k z => absurd z.1 (by decide)) (fun n k z => absurd z.1 (by decide)) (fun n k z => absurd z.1 (by decide))
  have fin : ∀ r, r = (nxD (sn + 1 + 2 + 2 * (i + 1)) D i).map (fun z => (8, z.1)) → smE true 63 32 [some (vR (some (4, 4))), some (vI (iZ i)), none, none] [] (sP m1 4 4 9 r) K := by
    intro r hr
    have F2 : FX A7 B89 m (sP m1 4 4 9 r) := F1.tr (FX.stP ⟨rfl, rfl, Or.inr rfl⟩)
    have e9 : gP (sP m1 4 4 9 r) 4 4 9 = r := by rw [gP_s, if_pos ⟨rfl, rfl, rfl⟩]
    have e8 : gP (sP m1 4 4 9 r) 4 4 8 = some (8, sn + 1 + 2 + 2 * i) := by rw [gP_s, if_neg (by omega)]; exact e8
    have e7 : gI (sP m1 4 4 9 r) 4 4 7 = iZ i := e7
    have e20 : ∀ n k, gI (sP m1 4 4 9 r) 20 n k = gI m 20 n k := e20
    have eL : ∀ n, gL (sP m1 4 4 9 r) 20 n = gL m 20 n := eL
    have eX : nX (sP m1 4 4 9 r) = nX m := eX
    have eS : nS (sP m1 4 4 9 r) = nS m := eS
    generalize sP m1 4 4 9 r = m2 at *
    subst hr
    have G2 : FX (AQ sc kp) (BQ sc) m m2 := F2.mono (fun t n k z => A7_AQ z) (fun t n k z => B89_BQ z)
    have RG2 : kp = true → RowsG m2 sc j := by
      intro z
      obtain ⟨a1, a2, a3, a4, ⟨⟨p1, p2, p3, p4⟩, ⟨l1, l2, l3, l4⟩, q2⟩, h2, h3⟩ := hG z
      have g : ∀ k, gP m2 6 sc k = gP m 6 sc k := fun k => F2.2.2.1 6 sc k (by omega) (fun z => absurd z.1 (by decide))
      exact ⟨a1, a2, a3, a4, ⟨⟨(g 2).trans p1, (g 3).trans p2, (g 4).trans p3, (g 5).trans p4⟩, ⟨(eL _).trans l1, (eL _).trans l2, (eL _).trans l3, (eL _).trans l4⟩, q2⟩, by rw [eX]; exact h2, h3⟩
    have E2 : WE m2 sc sn kp tm pc D j := hE.fx G2 RG2
    obtain ⟨⟨cap, hR⟩, hW, hres, hl, ha⟩ := id hc
    have R2 : RepS m2 sc kp cap (wr tm pc D i).1 (wr tm pc D i).2.1 (wr tm pc D i).2.2 := hR.fx (by omega) eL F2 (fun k z => absurd z.1 (by decide)) (fun k z => absurd z.1 (by decide)) e20
    have nA : ∀ {t n k : Nat}, t ≠ 4 → ¬ A7 t n k := fun q z => q z.1
    have res2 : ∀ q, q < i → Res m2 sc q (wr tm pc D q).1.length (wr tm pc D (q + 1)).1.length (wq tm pc D q).2.1 (wq tm pc D q).2.2.1 (wq tm pc D q).2.2.2 := fun q hq => (hres q hq).fr n1 F2 (nA (by decide)) (nA (by decide)) ⟨nA (by decide), nA (by decide), nA (by decide)⟩ (nA (by decide)) (nA (by decide))
    have l2 := (F2.2.1 6 sc 10 (by omega) (nA (by decide))).trans hl
    have a2 := (F2.2.1 6 sc 11 (by omega) (nA (by decide))).trans ha
    have mid : ∀ m3 j', j ≤ j' → (kp = true → RowsG m3 sc j') → RepS m3 sc kp ((wr tm pc D i).1.length + 73) (wr tm pc D i).1 (wr tm pc D i).2.1 (wr tm pc D i).2.2 → FX (AO sc i) (BO sc) m2 m3 → nX m3 + 4 * j = nX m2 + 4 * j' → nS m3 + 14016 * j ≤ nS m2 + 14016 * j' → gI m3 13 (sc + 2) i = iZ (wr tm pc D i).1.length → gI m3 15 (sc + 4) i = 0 → gI m3 16 (sc + 5) i = 0 → (kp = false → j' = j) → smE true 63 40 [some (vR (some (4, 4))), some (vI (iZ i)), none, none] [] m3 K := by
      intro m3 j' hj RG3 R3 F3 x3 s3 q13 q15 q16 hkj
      have G3 : FX (AQ sc kp) (BQ sc) m2 m3 := F3.mono (fun t n k z => AO_AQ z) (fun t n k z => BO_BQ z)
      have nA3 : ∀ {t n k : Nat}, t ≠ 13 → t ≠ 15 → t ≠ 16 → ¬ AO sc i t n k := fun q1 q2 q3 z => by unfold AO at z; omega
      have nB3 : ∀ {n k : Nat}, ¬ BO sc 4 n k := fun z => by unfold BO at z; omega
      have E3 := E2.fx G3 RG3
      refine write_40 E3 hi ((F3.2.2.1 4 4 8 (by omega) nB3).trans e8) ((F3.2.2.1 4 4 9 (by omega) nB3).trans e9) ((F3.2.1 4 4 7 (by omega) (nA3 (by decide) (by decide) (by decide))).trans e7) R3 hW (fun q hq => ?_) ((F3.2.1 6 sc 10 (by omega) (nA3 (by decide) (by decide) (by decide))).trans l2) ((F3.2.1 6 sc 11 (by omega) (nA3 (by decide) (by decide) (by decide))).trans a2) q13 q15 q16 (fun m' E4 C4 F4 x4 => ?_)
      · exact (res2 q hq).fr (by omega) F3 (by unfold AO; omega) (nA3 (by decide) (by decide) (by decide)) ⟨nA3 (by decide) (by decide) (by decide), nA3 (by decide) (by decide) (by decide), nA3 (by decide) (by decide) (by decide)⟩ (by unfold AO; omega) (by unfold AO; omega)
      · exact h m' j' hj E4 C4 ((G2.tr G3).tr F4) (by omega) (by omega) hkj
    refine wp_ok (by decide) OK_63 (cc := cd_63) rfl (stops := [40]) 60 _ _ _ _ ?_
    refine Exists.intro _ (And.intro E2.2.2.1.1 ?_)
    cases kp with
    | false =>
      refine And.intro trivial (c_openPaper rfl (by omega) R2 (by omega) (fun m3 R3 F3 q1 q2 q3 => ?_))
      have x3 : nX m3 = nX m2 := by unfold nX; rw [F3.1]
      have s3 : nS m3 = nS m2 := by unfold nS; rw [F3.1]
      exact And.intro trivial (mid m3 j (Nat.le_refl _) (fun z => by cases z) R3 F3.fx (by omega) (by omega) q1 q2 q3 (fun _ => rfl))
    | true =>
      refine And.intro trivial (c_openKept rfl (by omega) (RG2 rfl) R2 (by omega) (by omega) (fun m3 j' hj RG3 R3 F3 x3 s3 q1 q2 q3 => ?_))
      exact And.intro trivial (mid m3 j' hj (fun _ => RG3) R3 F3 x3 s3 q1 q2 q3 (fun z => absurd z (by decide)))
  refine wp1_ok (by decide) OK_63 (cc := cd_63) rfl (stops := [32]) (f := 30) ?_
  refine Exists.intro _ (And.intro ((F1.2.2.1 4 4 4 (by omega) (fun z => by unfold B89 at z; omega)).trans g4) ?_)
  refine And.intro trivial (c_playedNote (i := (i : Int) + 1) (by rw [L1, iZ_add]) (by constructor <;> omega) hD S1 (fun q1 q2 => ?_) (fun q => ?_))
  · refine And.intro trivial (fin _ ?_)
    have e : ((i : Int) + 1).toNat = i + 1 := by omega
    rw [e] at q2 ⊢
    unfold nxD
    rw [if_pos ⟨by omega, q2⟩]; rfl
  · refine And.intro trivial (fin _ ?_)
    have e : ((i : Int) + 1).toNat = i + 1 := by omega
    rw [e] at q
    unfold nxD
    rw [if_neg (fun z => q ⟨by omega, by omega, z.2⟩)]; rfl
end WRITE3
