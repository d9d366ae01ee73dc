/-! writeNote and the score behind n notes -/
def wq (tm : Nat → Int) (pc : Int) (D : Dt) (i : Nat) : WS × (Int × Int × Int) × Int × Int := wN tm pc (D.2.1 i) (nxD 0 D i) i (wr tm pc D i)
def wS (x : Int) (tm : Nat → Int) (pc : Int) (D : Dt) : Nat → Int
  | 0 => 0
  | n + 1 => wS x tm pc D n + v3 x (wq tm pc D n).2.1
theorem wr_s (tm : Nat → Int) (pc : Int) (D : Dt) (n : Nat) : wr tm pc D (n + 1) = (wq tm pc D n).1 := rfl
def ScR (m : Mem) (sc : Nat) (kp : Bool) (tm : Nat → Int) (pc : Int) (D : Dt) (n : Nat) : Prop :=
  (∃ cap, RepS m sc kp cap (wr tm pc D n).1 (wr tm pc D n).2.1 (wr tm pc D n).2.2) ∧ WOK (wr tm pc D n) ∧
  (∀ i, i < n → Res m sc i (wr tm pc D i).1.length (wr tm pc D (i + 1)).1.length (wq tm pc D i).2.1 (wq tm pc D i).2.2.1 (wq tm pc D i).2.2.2) ∧
  gI m 6 sc 10 = iZ (wS 2 tm pc D n) ∧ gI m 6 sc 11 = iZ (wS 3 tm pc D n)
def AQ (sc : Nat) (kp : Bool) : Nat → Nat → Nat → Prop := fun t n k =>
  (t = 4 ∧ n = 4 ∧ (k = 7 ∨ k = 10 ∨ k = 11 ∨ k = 13)) ∨ (t = 17 ∧ n = 26) ∨ (t = 6 ∧ n = sc ∧ (k = 1 ∨ k = 6 ∨ k = 7 ∨ k = 8 ∨ k = 9 ∨ k = 10 ∨ k = 11)) ∨ (t = 20 ∧ kp = true) ∨ (t = 7 ∧ n = sc + 1) ∨ (t = 13 ∧ n = sc + 2) ∨ (t = 14 ∧ n = sc + 3) ∨ (t = 15 ∧ n = sc + 4) ∨ (t = 16 ∧ n = sc + 5)
def BQ (sc : Nat) : Nat → Nat → Nat → Prop := fun t n k => (t = 4 ∧ n = 4 ∧ (k = 8 ∨ k = 9)) ∨ BO sc t n k
theorem wr_len {tm : Nat → Int} {pc : Int} {D : Dt} (ht : tmOK tm) (hp : 0 ≤ pc ∧ pc ≤ 400) (hD : DOK D) : ∀ n, n ≤ D.1 → (wr tm pc D n).1.length ≤ 73 * n
  | 0, _ => Nat.le_refl _
  | n + 1, h => by
    have h1 := wr_len ht hp hD n (by omega)
    have h2 := wN_len (tm := tm) (pc := pc) (nx := nxD 0 D n) (i := n) (s := wr tm pc D n) (hD.2.1 n (by omega)) (wT_rng ht (hD.2.1 n (by omega)) hp)
    show (wN tm pc (D.2.1 n) (nxD 0 D n) n (wr tm pc D n)).1.1.length ≤ _
    omega
section NOTES
variable {m : Mem} {K : Option SV → Mem → Prop} {sc i sn : Nat} {kp : Bool} {pc : Int} {tm : Nat → Int} {D : Dt}
theorem NRep.fx {A B : Nat → Nat → Nat → Prop} {m' : Mem} {n : Nat} {f : NF} (h : NRep m n f) (F : FX A B m m') (hn : n + 1 < nX m) (h8 : ∀ n k, ¬ A 8 n k) (h9 : ∀ n k, ¬ A 9 n k) : NRep m' n f := by
  have r8 : ∀ k, gI m' 8 n k = gI m 8 n k := fun k => F.2.1 8 n k (by omega) (h8 n k)
  have r9 : ∀ k, gI m' 9 (n + 1) k = gI m 9 (n + 1) k := fun k => F.2.1 9 (n + 1) k hn (h9 _ k)
  unfold NRep
  simp only [r8, r9]
  exact h
theorem SRep.fx {A B : Nat → Nat → Nat → Prop} {m' : Mem} (h : SRep m sn D) (hD : DOK D) (F : FX A B m m') (hn : sn + 99 < nX m) (h8 : ∀ n k, ¬ A 8 n k) (h9 : ∀ n k, ¬ A 9 n k) (h10 : ∀ n k, ¬ A 10 n k) (h12 : ∀ n k, ¬ A 12 n k) : SRep m' sn D := by
  obtain ⟨⟨a1, a2, a3⟩, b, c⟩ := h
  have h1 := hD.1
  refine ⟨⟨(F.2.1 10 sn 1 (by omega) (h10 _ _)).trans a1, (F.2.1 10 sn 3 (by omega) (h10 _ _)).trans a2, (F.2.1 10 sn 4 (by omega) (h10 _ _)).trans a3⟩, fun i hi => (b i hi).fx F (by omega) h8 h9, fun k hk => (F.2.1 12 (sn + 2) k (by omega) (h12 _ _)).trans (c k hk)⟩
theorem Res.fr {A B : Nat → Nat → Nat → Prop} {m' : Mem} {n0 n1 o a : Int} {v : Int × Int × Int} (h : Res m sc i n0 n1 v o a) (hs : sc + 5 < nX m) (F : FX A B m m') (h13 : ¬ A 13 (sc + 2) i) (h14 : ¬ A 14 (sc + 3) i) (h7 : ¬ A 7 (sc + 1) (3 * i) ∧ ¬ A 7 (sc + 1) (3 * i + 1) ∧ ¬ A 7 (sc + 1) (3 * i + 2)) (h15 : ¬ A 15 (sc + 4) i) (h16 : ¬ A 16 (sc + 5) i) : Res m' sc i n0 n1 v o a := by
  obtain ⟨a1, a2, ⟨a3, a4, a5⟩, a6, a7⟩ := h
  exact ⟨(F.2.1 13 _ _ (by omega) h13).trans a1, (F.2.1 14 _ _ (by omega) h14).trans a2, ⟨(F.2.1 7 _ _ (by omega) h7.1).trans a3, (F.2.1 7 _ _ (by omega) h7.2.1).trans a4, (F.2.1 7 _ _ (by omega) h7.2.2).trans a5⟩, (F.2.1 15 _ _ (by omega) h15).trans a6, (F.2.1 16 _ _ (by omega) h16).trans a7⟩
/-- what the notes' writing asks of the memory, and keeps -/
def WE (m : Mem) (sc sn : Nat) (kp : Bool) (tm : Nat → Int) (pc : Int) (D : Dt) (j : Nat) : Prop :=
  (tmOK tm ∧ (0 ≤ pc ∧ pc ≤ 400) ∧ DOK D) ∧ (sc + 5 < nX m ∧ sn + 99 < nX m ∧ 26 < nX m) ∧ (gP m 4 4 5 = some (6, sc) ∧ gP m 4 4 4 = some (10, sn)) ∧ gI m 4 4 6 = iZ pc ∧ (∀ k, k < 7 → gI m 5 5 k = iZ (tm k)) ∧ SRep m sn D ∧ (kp = true → RowsG m sc j)
theorem AN_AQ {t n k : Nat} (h : AN sc kp i t n k) : AQ sc kp t n k := by
  rcases h with (⟨rfl, rfl, h⟩ | ⟨rfl, h⟩ | ⟨rfl, rfl, h⟩ | ⟨rfl, rfl, h⟩ | ⟨rfl, rfl, h⟩) | h | ⟨rfl, rfl, h⟩ | ⟨rfl, rfl⟩
  · simp [AQ]; omega
  · simp [AQ, h]
  · simp [AQ]
  · simp [AQ]
  · simp [AQ]; omega
  · unfold AC at h
    rcases h with ⟨rfl, rfl, h⟩ | ⟨rfl, rfl, h⟩ | ⟨rfl, rfl, h⟩
    · simp [AQ]
    · simp [AQ]
    · simp [AQ]; omega
  · simp [AQ, h]
  · simp [AQ]
theorem AO_AQ {t n k : Nat} (h : AO sc i t n k) : AQ sc kp t n k := by
  rcases h with ⟨rfl, rfl, h⟩ | ⟨rfl, rfl, h⟩ | ⟨rfl, rfl, h⟩ <;> simp [AQ]
theorem nAQ {t n k : Nat} (h : t = 5 ∨ t = 8 ∨ t = 9 ∨ t = 10 ∨ t = 11 ∨ t = 12 ∨ (t = 4 ∧ k = 6)) : ¬ AQ sc kp t n k := by unfold AQ; omega
theorem WE.fx {m' : Mem} {j j' : Nat} (h : WE m sc sn kp tm pc D j) (F : FX (AQ sc kp) (BQ sc) m m') (hG : kp = true → RowsG m' sc j') : WE m' sc sn kp tm pc D j' := by
  obtain ⟨h1, ⟨n1, n2, n3⟩, ⟨g1, g2⟩, h6, ht, hS, _⟩ := h
  have hl := F.1
  refine ⟨h1, ⟨by omega, by omega, by omega⟩, ⟨(F.2.2.1 4 4 5 (by omega) (by unfold BQ BO; omega)).trans g1, (F.2.2.1 4 4 4 (by omega) (by unfold BQ BO; omega)).trans g2⟩, (F.2.1 4 4 6 (by omega) (nAQ (by omega))).trans h6, fun k hk => (F.2.1 5 5 k (by omega) (nAQ (by omega))).trans (ht k hk), hS.fx h1.2.2 F n2 (fun n k => nAQ (by omega)) (fun n k => nAQ (by omega)) (fun n k => nAQ (by omega)) (fun n k => nAQ (by omega)), hG⟩
theorem RowsG.kept {m' : Mem} {j : Nat} (h : m'.2 = m.2) (hG : RowsG m sc j) : RowsG m' sc j := by
  obtain ⟨a1, a2, a3, a4, h1, h2, h3⟩ := hG
  refine ⟨a1, a2, a3, a4, RowsOK.kept h h1, ?_, h3⟩
  unfold nX; rw [h]; exact h2
/-- from place 40 on, once openNote is through -/
theorem write_40 {m1 : Mem} {j' : Nat} (hE : WE m1 sc sn kp tm pc D j') (hi : i < D.1) (g8 : gP m1 4 4 8 = some (8, sn + 1 + 2 + 2 * i)) (g9 : gP m1 4 4 9 = (nxD (sn + 1 + 2 + 2 * (i + 1)) D i).map (fun z => (8, z.1))) (i7 : gI m1 4 4 7 = iZ i)
    (hR : RepS m1 sc kp ((wr tm pc D i).1.length + 73) (wr tm pc D i).1 (wr tm pc D i).2.1 (wr tm pc D i).2.2) (hW : WOK (wr tm pc D i)) (hres : ∀ j, j < i → Res m1 sc j (wr tm pc D j).1.length (wr tm pc D (j + 1)).1.length (wq tm pc D j).2.1 (wq tm pc D j).2.2.1 (wq tm pc D j).2.2.2)
    (hl : gI m1 6 sc 10 = iZ (wS 2 tm pc D i)) (ha : gI m1 6 sc 11 = iZ (wS 3 tm pc D i)) (h13 : gI m1 13 (sc + 2) i = iZ (wr tm pc D i).1.length) (h15 : gI m1 15 (sc + 4) i = 0) (h16 : gI m1 16 (sc + 5) i = 0)
    (h : ∀ m', WE m' sc sn kp tm pc D j' → ScR m' sc kp tm pc D (i + 1) → FX (AQ sc kp) (BQ sc) m1 m' → (nX m' = nX m1 ∧ nS m' = nS m1) → K none m') : smE true 63 40 [some (vR (some (4, 4))), some (vI (iZ i)), none, none] [] m1 K := by
  obtain ⟨⟨htm, hpc, hD⟩, ⟨n1, n2, n3⟩, ⟨g5, g4⟩, h6, ht, hS, hG⟩ := id hE
  have hD48 := hD.1
  have hf := hD.2.1 i hi
  have hx : ∀ z, nxD (sn + 1 + 2 + 2 * (i + 1)) D i = some z → gI m1 8 z.1 0 = iZ (pit z.2.1 z.2.2) ∧ okP z.2 := by
    intro z hz
    unfold nxD at hz
    by_cases hc : i + 1 < D.1 ∧ D.2.1 (i + 1) 0 = 1
    · rw [if_pos hc] at hz
      cases hz
      have hq := (hD.2.1 (i + 1) hc.1).pit hc.2
      refine ⟨?_, ?_⟩
      · rw [(hS.2.1 (i + 1) hc.1).1.1]; unfold nPit; rw [if_pos hc.2]
      · unfold okP; simp only; omega
    · rw [if_neg hc] at hz; cases hz
  have ew : wN tm pc (D.2.1 i) (nxD (sn + 1 + 2 + 2 * (i + 1)) D i) i (wr tm pc D i) = wq tm pc D i := wN_cell _ _ _ _ _ _ _ _
  refine write_mid (nx := nxD (sn + 1 + 2 + 2 * (i + 1)) D i) (f := D.2.1 i) (s := wr tm pc D i) (l := wS 2 tm pc D i) (a := wS 3 tm pc D i) (cap := (wr tm pc D i).1.length + 73) (kp := kp) (tm := tm) (pc := pc) htm hf hpc (by omega) g5 g8 g9 i7 h6 ht (hS.2.1 i hi) hx hR hW (Nat.le_refl _) hl ha h13 h15 h16 ?_
  rw [ew]
  intro m' r1 r2 F r4 r5 r6
  have FQ : FX (AQ sc kp) (BQ sc) m1 m' := (F.mono (fun t n k z => AN_AQ z)).fx
  refine h m' (hE.fx FQ (fun z => (hG z).kept F.1)) ⟨⟨_, r1⟩, r2, fun q hq => ?_, r5, r6⟩ FQ ⟨by unfold nX; rw [F.1], by unfold nS; rw [F.1]⟩
  by_cases e : q = i
  · subst e; exact r4
  · have hFX : FX (AN sc kp i) N3 m1 m' := F.fx
    exact (hres q (by omega)).fr n1 hFX (by unfold AN AW AC; omega) (by unfold AN AW AC; omega) ⟨by unfold AN AW AC; omega, by unfold AN AW AC; omega, by unfold AN AW AC; omega⟩ (by unfold AN AW AC; omega) (by unfold AN AW AC; omega)
end NOTES
