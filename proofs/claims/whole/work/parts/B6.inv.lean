/-! WHAT HOLDS BETWEEN THE CALLS -/
theorem SOK.dok {D : Dt} {be : Int} {p : Nat} (h : SOK D be p) (hp : p ≤ 840) : DOK D := ⟨h.1, fun i hi => (h.2.1 i hi).1, by have := h.2.2.2.2.1; omega⟩
/-- the state as the document has it: tape, how much of it, the last fault, the terms, the song -/
def SI (tp : Nat → Int) (td : Nat) (tm : Nat → Int) (D : Dt) : Prop := TPOK tp ∧ td ≤ 800 ∧ tmOK tm ∧ ∃ be, SOK D be 800
theorem SI.dok {tp : Nat → Int} {td : Nat} {tm : Nat → Int} {D : Dt} (h : SI tp td tm D) : DOK D := by
  obtain ⟨be, hb⟩ := h.2.2.2
  exact hb.dok (by omega)
theorem SI.bok {tp : Nat → Int} {td : Nat} {tm : Nat → Int} {D : Dt} (h : SI tp td tm D) : BOK D := by
  obtain ⟨be, hb⟩ := h.2.2.2
  exact hb.2.2.1
/-- the class's memory -/
def CJ (m : Mem) (tp : Nat → Int) (td : Nat) (fl : Int × Int) (tm : Nat → Int) (D : Dt) (a sa sb j : Nat) (st : Bool) : Prop :=
  (((sa = 27 ∧ sb = 128) ∨ (sa = 128 ∧ sb = 27)) ∧ gP m 0 0 2 = some (10, sa) ∧ gP m 0 0 3 = some (10, sb)) ∧ (256 ≤ nX m ∧ nX m ≤ 256 + 4 * j + 60 * a ∧ nS m ≤ 100000 + 14016 * j + 600 * a) ∧
  ((∀ k, k < 800 → gI m 2 2 k = iZ (tp k)) ∧ gI m 1 1 1 = iZ td) ∧ (gI m 0 0 5 = iZ fl.1 ∧ gI m 0 0 6 = iZ fl.2) ∧ PW m 6 sa true tm D j ∧ gI m 6 16 0 = 0 ∧ gI m 4 4 3 = (if st then 1 else 0) ∧ (st = false → ScR m 6 true tm (tm 5) D D.1)
/-- what the terms may be -/
def loT (k : Nat) : Int := [20, 8, 0, 0, 0, 25, 0].getD k 0
def hiT (k : Nat) : Int := [250, 64, 1, 1, 1, 400, 1].getD k 0
/-- the Model's memory -/
def MI (m : Mem) (tp : Nat → Int) (td : Nat) (fl : Int × Int) (tm : Nat → Int) (D : Dt) : Prop :=
  (MB m ∧ MWd m ∧ (∀ k, k < 7 → gI m 25 233 k = iZ (loT k) ∧ gI m 26 234 k = iZ (hiT k))) ∧ MTm m tm ∧ MD m D ∧ ((∀ k, k < 800 → gI m 31 239 k = iZ (sg (tp k))) ∧ gI m 23 231 9 = iZ td) ∧ gI m 23 231 12 = iZ fl.1 ∧ gI m 23 231 13 = iZ fl.2
/-- the Model's memory is as it was -/
def FC (m m' : Mem) : Prop := ∀ t n k, 23 ≤ t → t ≤ 47 → n < 256 → gI m' t n k = gI m t n k
theorem FC.rf (m : Mem) : FC m m := fun _ _ _ _ _ _ => rfl
theorem FC.tr {a b c : Mem} (h : FC a b) (h2 : FC b c) : FC a c := fun t n k h1 h3 h4 => (h2 t n k h1 h3 h4).trans (h t n k h1 h3 h4)
theorem FC.of {A B : Nat → Nat → Nat → Prop} {m m' : Mem} (F : FX A B m m') (h : 256 ≤ nX m) (hA : ∀ t n k, 23 ≤ t → t ≤ 47 → ¬ A t n k) : FC m m' := fun t n k h1 h2 h3 => F.2.1 t n k (by omega) (hA t n k h1 h2)
theorem nAV23 {sc t n k : Nat} {kp : Bool} (h : 23 ≤ t) : ¬ AV sc kp t n k := by
  rintro (z | z)
  · unfold AQ at z; omega
  · omega
section INV
variable {m m' : Mem} {K : Option SV → Mem → Prop} {tp : Nat → Int} {td : Nat} {fl : Int × Int} {tm : Nat → Int} {D : Dt} {a sa sb j : Nat} {st : Bool}
theorem MI.fc (h : MI m tp td fl tm D) (F : FC m m') : MI m' tp td fl tm D := by
  obtain ⟨⟨⟨b1, b2⟩, hw, hl⟩, ht, ⟨⟨d1, d2, d3⟩, d4, d5⟩, ⟨p1, p2⟩, f1, f2⟩ := h
  have g : ∀ {t n k : Nat}, 23 ≤ t → t ≤ 47 → n < 256 → gI m' t n k = gI m t n k := fun h1 h2 h3 => F _ _ _ h1 h2 h3
  refine ⟨⟨⟨fun k hk => (g (by omega) (by omega) (by omega)).trans (b1 k hk), ?_⟩, fun k hk => (g (by omega) (by omega) (by omega)).trans (hw k hk), fun k hk => ⟨(g (by omega) (by omega) (by omega)).trans (hl k hk).1, (g (by omega) (by omega) (by omega)).trans (hl k hk).2⟩⟩, fun k hk => (g (by omega) (by omega) (by omega)).trans (ht k hk), ⟨⟨(g (by omega) (by omega) (by omega)).trans d1, (g (by omega) (by omega) (by omega)).trans d2, (g (by omega) (by omega) (by omega)).trans d3⟩, fun i w hi hw => (g (by omega) (by omega) (by omega)).trans (d4 i w hi hw), fun k hk => (g (by omega) (by omega) (by omega)).trans (d5 k hk)⟩, ⟨fun k hk => (g (by omega) (by omega) (by omega)).trans (p1 k hk), (g (by omega) (by omega) (by omega)).trans p2⟩, (g (by omega) (by omega) (by omega)).trans f1, (g (by omega) (by omega) (by omega)).trans f2⟩
  obtain ⟨c0, c1, c2, c3, c4, c5, c6⟩ := b2
  exact ⟨(g (by omega) (by omega) (by omega)).trans c0, (g (by omega) (by omega) (by omega)).trans c1, (g (by omega) (by omega) (by omega)).trans c2, (g (by omega) (by omega) (by omega)).trans c3, (g (by omega) (by omega) (by omega)).trans c4, (g (by omega) (by omega) (by omega)).trans c5, (g (by omega) (by omega) (by omega)).trans c6⟩
/-- what a call of the Model that asks may touch -/
def AMq : Nat → Nat → Nat → Prop := fun t n k => (t = 23 ∧ n = 231 ∧ (k = 0 ∨ 38 ≤ k)) ∨ (34 ≤ t ∧ t ≤ 47)
/-- what any call of the Model may touch -/
def AMa : Nat → Nat → Nat → Prop := fun t _ _ => 23 ≤ t ∧ t ≤ 47
theorem AMq_a {t n k : Nat} (h : AMq t n k) : AMa t n k := by unfold AMq at h; unfold AMa; omega
theorem MI.fq (h : MI m tp td fl tm D) (F : Fr AMq m m') : MI m' tp td fl tm D := by
  obtain ⟨⟨⟨b1, b2⟩, hw, hl⟩, ht, ⟨⟨d1, d2, d3⟩, d4, d5⟩, ⟨p1, p2⟩, f1, f2⟩ := h
  have g : ∀ {t n k : Nat}, t ≠ 23 → t < 34 → gI m' t n k = gI m t n k := fun h1 h2 => F.2 _ _ _ (by unfold AMq; omega)
  refine ⟨⟨⟨fun k hk => (g (by omega) (by omega)).trans (b1 k hk), ?_⟩, fun k hk => (g (by omega) (by omega)).trans (hw k hk), fun k hk => ⟨(g (by omega) (by omega)).trans (hl k hk).1, (g (by omega) (by omega)).trans (hl k hk).2⟩⟩, fun k hk => (g (by omega) (by omega)).trans (ht k hk), ⟨⟨(g (by omega) (by omega)).trans d1, (g (by omega) (by omega)).trans d2, (g (by omega) (by omega)).trans d3⟩, fun i w hi hw => (g (by omega) (by omega)).trans (d4 i w hi hw), fun k hk => (g (by omega) (by omega)).trans (d5 k hk)⟩, ⟨fun k hk => (g (by omega) (by omega)).trans (p1 k hk), (F.2 _ _ _ (by unfold AMq; omega)).trans p2⟩, (F.2 _ _ _ (by unfold AMq; omega)).trans f1, (F.2 _ _ _ (by unfold AMq; omega)).trans f2⟩
  obtain ⟨c0, c1, c2, c3, c4, c5, c6⟩ := b2
  exact ⟨(g (by omega) (by omega)).trans c0, (g (by omega) (by omega)).trans c1, (g (by omega) (by omega)).trans c2, (g (by omega) (by omega)).trans c3, (g (by omega) (by omega)).trans c4, (g (by omega) (by omega)).trans c5, (g (by omega) (by omega)).trans c6⟩
theorem RV.fx {a1 a2 a3 a4 : Nat} : ∀ {ts : List Tn}, RV m a1 a2 a3 a4 ts → (∀ n k, n < nX m → gI m' 20 n k = gI m 20 n k) → (a1 < nX m ∧ a2 < nX m ∧ a3 < nX m ∧ a4 < nX m) → RV m' a1 a2 a3 a4 ts
  | [], _, _, _ => trivial
  | t :: ts, h, g, hn => ⟨⟨(g _ _ hn.1).trans h.1.1, (g _ _ hn.2.1).trans h.1.2.1, (g _ _ hn.2.2.1).trans h.1.2.2.1, (g _ _ hn.2.2.2).trans h.1.2.2.2⟩, RV.fx h.2 g hn⟩
theorem ScR.fx {A B : Nat → Nat → Nat → Prop} {sc n : Nat} {pc : Int} (h : ScR m sc true tm pc D n) (hG : RowsG m sc j) (hs : sc + 5 < nX m) (F : FX A B m m') (h6 : ∀ k, ¬ A 6 sc k) (h20 : ∀ n k, ¬ A 20 n k) (hA : ∀ k, ¬ A 7 (sc + 1) k ∧ ¬ A 13 (sc + 2) k ∧ ¬ A 14 (sc + 3) k ∧ ¬ A 15 (sc + 4) k ∧ ¬ A 16 (sc + 5) k) (hB : ∀ k, ¬ B 6 sc k) : ScR m' sc true tm pc D n := by
  obtain ⟨⟨cap, ⟨⟨r0, r1, r6, rr, rl⟩, r7, r8⟩⟩, hW, hres, hl, ha⟩ := h
  obtain ⟨b1, b2, b3, b4, ⟨⟨p1, p2, p3, p4⟩, q⟩, hn, _⟩ := hG
  have g : ∀ k, gI m' 6 sc k = gI m 6 sc k := fun k => F.2.1 6 sc k (by omega) (h6 k)
  refine ⟨⟨cap, ⟨⟨(g 0).trans r0, (g 1).trans r1, (g 6).trans r6, fun z => ?_, rl⟩, (g 7).trans r7, fun t ht => ⟨(g 8).trans (r8 t ht).1, (g 9).trans (r8 t ht).2⟩⟩⟩, hW, fun i hi => (hres i hi).fr hs F (hA i).2.1 (hA i).2.2.1 ⟨(hA _).1, (hA _).1, (hA _).1⟩ (hA i).2.2.2.1 (hA i).2.2.2.2, (g 10).trans hl, (g 11).trans ha⟩
  obtain ⟨a1, a2, a3, a4, r, ⟨⟨s1, s2, s3, s4⟩, ⟨l1, l2, l3, l4⟩, ne⟩, hc, hv⟩ := rr z
  have e1 : a1 = b1 := by have := s1.symm.trans p1; injection this with this; injection this
  have e2 : a2 = b2 := by have := s2.symm.trans p2; injection this with this; injection this
  have e3 : a3 = b3 := by have := s3.symm.trans p3; injection this with this; injection this
  have e4 : a4 = b4 := by have := s4.symm.trans p4; injection this with this; injection this
  subst e1; subst e2; subst e3; subst e4
  have gp : ∀ k, gP m' 6 sc k = gP m 6 sc k := fun k => F.2.2.1 6 sc k (by omega) (hB k)
  exact ⟨a1, a2, a3, a4, r, ⟨⟨(gp 2).trans s1, (gp 3).trans s2, (gp 4).trans s3, (gp 5).trans s4⟩, ⟨(F.2.2.2 _ _ hn.1).trans l1, (F.2.2.2 _ _ hn.2.1).trans l2, (F.2.2.2 _ _ hn.2.2.1).trans l3, (F.2.2.2 _ _ hn.2.2.2).trans l4⟩, ne⟩, hc, hv.fx (fun n k hk => F.2.1 20 n k hk (h20 n k)) hn⟩
theorem RowsG.fx {A B : Nat → Nat → Nat → Prop} {sc : Nat} (hG : RowsG m sc j) (hs : sc + 5 < nX m) (F : FX A B m m') (hB : ∀ k, ¬ B 6 sc k) : RowsG m' sc j := by
  obtain ⟨b1, b2, b3, b4, ⟨⟨p1, p2, p3, p4⟩, ⟨l1, l2, l3, l4⟩, q⟩, hn, h5⟩ := hG
  have gp : ∀ k, gP m' 6 sc k = gP m 6 sc k := fun k => F.2.2.1 6 sc k (by omega) (hB k)
  have := F.1
  exact ⟨b1, b2, b3, b4, ⟨⟨(gp 2).trans p1, (gp 3).trans p2, (gp 4).trans p3, (gp 5).trans p4⟩, ⟨(F.2.2.2 _ _ hn.1).trans l1, (F.2.2.2 _ _ hn.2.1).trans l2, (F.2.2.2 _ _ hn.2.2.1).trans l3, (F.2.2.2 _ _ hn.2.2.2).trans l4⟩, q⟩, by omega, h5⟩
/-- stores that the class's memory does not speak of -/
def aOK : Nat → Nat → Nat → Prop := fun t n k => 21 ≤ t ∨ (t = 4 ∧ n = 4) ∨ t = 17 ∨ (t = 6 ∧ n = 16 ∧ k ≠ 0) ∨ (17 ≤ n ∧ n ≤ 21 ∧ (t = 7 ∨ t = 13 ∨ t = 14 ∨ t = 15 ∨ t = 16))
def bOKf : Nat → Nat → Nat → Prop := fun t n _ => (t = 4 ∧ n = 4) ∨ (t = 6 ∧ n = 16) ∨ 21 ≤ t
theorem CJ.fx {A B : Nat → Nat → Nat → Prop} {a' : Nat} (h : CJ m tp td fl tm D a sa sb j st) (F : FX A B m m') (hX : nX m' ≤ 256 + 4 * j + 60 * a' ∧ nS m' ≤ 100000 + 14016 * j + 600 * a') (h43 : gI m' 4 4 3 = gI m 4 4 3) (hA : ∀ t n k, A t n k → aOK t n k) (hB : ∀ t n k, B t n k → bOKf t n k) : CJ m' tp td fl tm D a' sa sb j st := by
  obtain ⟨⟨hs, g2, g3⟩, ⟨x1, x2, x3⟩, ⟨t1, t2⟩, ⟨f1, f2⟩, hP, h16, h3, hc⟩ := h
  have nA : ∀ {t n k : Nat}, ¬ aOK t n k → ¬ A t n k := fun q z => q (hA _ _ _ z)
  have nB : ∀ {t n k : Nat}, ¬ bOKf t n k → ¬ B t n k := fun q z => q (hB _ _ _ z)
  have hl := F.1
  have hG : RowsG m 6 j := hP.2.2.2.2.2 rfl
  refine ⟨⟨hs, (F.2.2.1 _ _ _ (by omega) (nB (by unfold bOKf; omega))).trans g2, (F.2.2.1 _ _ _ (by omega) (nB (by unfold bOKf; omega))).trans g3⟩, ⟨by omega, hX.1, hX.2⟩, ⟨fun k hk => (F.2.1 _ _ _ (by omega) (nA (by unfold aOK; omega))).trans (t1 k hk), (F.2.1 _ _ _ (by omega) (nA (by unfold aOK; omega))).trans t2⟩, ⟨(F.2.1 _ _ _ (by omega) (nA (by unfold aOK; omega))).trans f1, (F.2.1 _ _ _ (by omega) (nA (by unfold aOK; omega))).trans f2⟩, hP.fx F (fun t n k z => nA (by unfold aOK; omega)) (nA (by unfold aOK; omega)) (fun _ => hG.fx (by omega) F (fun k => nB (by unfold bOKf; omega))), (F.2.1 _ _ _ (by omega) (nA (by unfold aOK; omega))).trans h16, h43.trans h3, fun z => (hc z).fx hG (by omega) F (fun k => nA (by unfold aOK; omega)) (fun n k => nA (by unfold aOK; omega)) (fun k => ⟨nA (by unfold aOK; omega), nA (by unfold aOK; omega), nA (by unfold aOK; omega), nA (by unfold aOK; omega), nA (by unfold aOK; omega)⟩) (fun k => nB (by unfold bOKf; omega))⟩
theorem CJ.ma (h : CJ m tp td fl tm D a sa sb j st) (F : Fr AMa m m') : CJ m' tp td fl tm D a sa sb j st := by
  have e : nX m' = nX m := by unfold nX; rw [F.1]
  have e2 : nS m' = nS m := by unfold nS; rw [F.1]
  have hx := h.2.1
  exact h.fx (Fr.fx (B := N3) F) ⟨by omega, by omega⟩ (F.2 _ _ _ (by unfold AMa; omega)) (fun t n k z => Or.inl (by unfold AMa at z; omega)) (fun t n k z => absurd z id)
theorem CJ.one (h : CJ m tp td fl tm D a sa sb j st) : CJ m tp td fl tm D (a + 1) sa sb j st := by
  obtain ⟨h1, ⟨x1, x2, x3⟩, h2⟩ := h
  exact ⟨h1, ⟨x1, by omega, by omega⟩, h2⟩
/-- the standing score -/
theorem CJ.written (h : CJ m tp td fl tm D a sa sb j st) (hk : ∀ m' j', CJ m' tp td fl tm D a sa sb j' false → FC m m' → K (some (vR (some (6, 6)))) m') : smC true 61 [vR (some (4, 4)), vR (some (10, sa))] m K := by
  obtain ⟨⟨hs, g2, g3⟩, ⟨x1, x2, x3⟩, ⟨t1, t2⟩, ⟨f1, f2⟩, hP, h16, h3, hc⟩ := h
  refine c_written hP h3 hc (fun m' j' hj P' S' F' q1 q2 q3 => ?_)
  have hl := F'.1
  have nA : ∀ {t n k : Nat}, t = 0 ∨ t = 1 ∨ t = 2 ∨ (t = 6 ∧ n = 16) → ¬ AV 6 true t n k := by
    rintro t n k z (w | w)
    · unfold AQ at w; omega
    · omega
  have nB : ∀ {n k : Nat}, ¬ BV 6 0 n k := by
    rintro n k (w | w)
    · unfold BQ BO at w; omega
    · omega
  exact hk m' j' ⟨⟨hs, (F'.2.2.1 _ _ _ (by omega) nB).trans g2, (F'.2.2.1 _ _ _ (by omega) nB).trans g3⟩, ⟨by omega, by omega, by omega⟩, ⟨fun k hk => (F'.2.1 _ _ _ (by omega) (nA (by omega))).trans (t1 k hk), (F'.2.1 _ _ _ (by omega) (nA (by omega))).trans t2⟩, ⟨(F'.2.1 _ _ _ (by omega) (nA (by omega))).trans f1, (F'.2.1 _ _ _ (by omega) (nA (by omega))).trans f2⟩, P', (F'.2.1 _ _ _ (by omega) (nA (by omega))).trans h16, q3, fun _ => S'⟩ (FC.of F' x1 (fun t n k h1 _ => nAV23 h1))
/-- a score on paper leaves all as it was -/
theorem CJ.paper {pc : Int} {n : Nat} (h : CJ m tp td fl tm D a sa sb j st) (hW : WL m m' 16 sa false tm pc D 0 n) : CJ m' tp td fl tm D a sa sb j st ∧ FC m m' := by
  obtain ⟨j0, hj, _, _, _, F, q1, q2, q3, q4⟩ := hW
  have e := q4 rfl
  have hx := h.2.1
  refine ⟨h.fx F ⟨by omega, by omega⟩ q3 (fun t n k z => ?_) (fun t n k z => ?_), FC.of F hx.1 (fun t n k h1 _ => nAV23 h1)⟩
  · unfold aOK
    rcases z with z | z
    · rcases z with z | z | z | z | z | z | z | z | z
      · exact Or.inr (Or.inl ⟨z.1, z.2.1⟩)
      · exact Or.inr (Or.inr (Or.inl z.1))
      · exact Or.inr (Or.inr (Or.inr (Or.inl ⟨z.1, z.2.1, by omega⟩)))
      · exact absurd z.2 (by decide)
      · omega
      · omega
      · omega
      · omega
      · omega
    · exact Or.inr (Or.inl ⟨z.1, z.2.1⟩)
  · unfold bOKf
    rcases z with z | z
    · rcases z with z | z
      · exact Or.inl ⟨z.1, z.2.1⟩
      · unfold BO at z; omega
    · exact Or.inl ⟨z.1, z.2.1⟩
theorem CJ.pw16 (h : CJ m tp td fl tm D a sa sb j st) : PW m 16 sa false tm D 0 := by
  obtain ⟨⟨hs, g2, g3⟩, ⟨x1, x2, x3⟩, ⟨t1, t2⟩, ⟨f1, f2⟩, hP, h16, h3, hc⟩ := h
  obtain ⟨h1, ⟨n1, n2, n3⟩, ht, hS, h0, _⟩ := hP
  exact ⟨h1, ⟨by omega, n2, n3⟩, ht, hS, h16, fun z => by cases z⟩
end INV
