/-! THE MODEL: writes -/
section MWR
variable {m0 m : Mem} {K : Option SV → Mem → Prop} {D : Dt} {tm : Nat → Int} {i : Nat} {s : WS} {lf a : Int} {b : Bool}
def AMW : Nat → Nat → Nat → Prop := fun t n k => (t = 23 ∧ n = 231 ∧ 43 ≤ k ∧ k ≤ 52) ∨ (34 ≤ t ∧ t ≤ 45)
theorem AMN_AMW {t n k : Nat} (h : AMN i t n k) : AMW t n k := by
  rcases h with (⟨h1, h2, h3⟩ | ⟨h1, h2⟩ | ⟨h1, h2, h3⟩) | ⟨h1, h2, h3, h4⟩ | ⟨h1, h2, h3⟩ | ⟨h1, h2, h3⟩ | ⟨h1, h2, h3⟩ | ⟨h1, h2, h3⟩
  · exact Or.inl ⟨h1, h2, by omega⟩
  · exact Or.inr (by omega)
  · exact Or.inr (by omega)
  · exact Or.inl ⟨h1, h2, by omega⟩
  · exact Or.inr (by omega)
  · exact Or.inr (by omega)
  · exact Or.inr (by omega)
  · exact Or.inr (by omega)
/-- the Model's score behind n notes -/
def MSR (m : Mem) (tm : Nat → Int) (pc : Int) (D : Dt) (n : Nat) : Prop :=
  MS m (wr tm pc D n) ∧ ∀ i, i < n → MRes m i (if D.2.1 i 0 = 1 then ((wr tm pc D i).1.length : Int) else -1) ((wr tm pc D (i + 1)).1.length - (wr tm pc D i).1.length) (wq tm pc D i).2.1 (wq tm pc D i).2.2.1 (wq tm pc D i).2.2.2
theorem MRes.fr {A : Nat → Nat → Nat → Prop} {m' : Mem} {f0 n1 o a : Int} {v : Int × Int × Int} (h : MRes m i f0 n1 v o a) (F : Fr A m m') (h1 : ¬ A 41 249 i) (h2 : ¬ A 42 250 i) (h3 : ∀ k, 3 * i ≤ k ∧ k < 3 * i + 3 → ¬ A 43 251 k) (h4 : ¬ A 44 252 i) (h5 : ¬ A 45 253 i) : MRes m' i f0 n1 v o a := by
  obtain ⟨a1, a2, ⟨a3, a4, a5⟩, a6, a7⟩ := h
  exact ⟨(F.2 _ _ _ h1).trans a1, (F.2 _ _ _ h2).trans a2, ⟨(F.2 _ _ _ (h3 _ (by omega))).trans a3, (F.2 _ _ _ (h3 _ (by omega))).trans a4, (F.2 _ _ _ (h3 _ (by omega))).trans a5⟩, (F.2 _ _ _ h4).trans a6, (F.2 _ _ _ h5).trans a7⟩
theorem MS.fr {A : Nat → Nat → Nat → Prop} {m' : Mem} (h : MS m s) (F : Fr A m m') (h1 : ∀ t n k, 34 ≤ t ∧ t ≤ 40 → ¬ A t n k) (h2 : ¬ A 23 231 43) (h3 : ¬ A 23 231 49) : MS m' s :=
  ⟨⟨MV_keep (fun t n k _ ht => F.2 t n k (h1 _ _ _ ht)) h.1.1, (F.2 _ _ _ h2).trans h.1.2.1, (F.2 _ _ _ h3).trans h.1.2.2⟩, h.2⟩
/-- what one turn's first stores touch -/
def AZ (i : Nat) : Nat → Nat → Nat → Prop := fun t n k => (t = 41 ∧ n = 249 ∧ k = i) ∨ (t = 42 ∧ n = 250 ∧ k = i) ∨ (t = 43 ∧ n = 251 ∧ 3 * i ≤ k ∧ k < 3 * i + 3) ∨ (t = 44 ∧ n = 252 ∧ k = i) ∨ (t = 45 ∧ n = 253 ∧ k = i)
theorem AZ_AMN {t n k : Nat} (h : AZ i t n k) : AMN i t n k := by
  rcases h with ⟨h1, h2, h3⟩ | ⟨h1, h2, h3⟩ | ⟨h1, h2, h3⟩ | ⟨h1, h2, h3⟩ | ⟨h1, h2, h3⟩
  · exact Or.inr (Or.inr (Or.inl ⟨h1, h2, h3⟩))
  · exact Or.inr (Or.inr (Or.inr (Or.inl ⟨h1, h2, h3⟩)))
  · exact Or.inr (Or.inr (Or.inr (Or.inr (Or.inl ⟨h1, h2, h3⟩))))
  · exact Or.inr (Or.inr (Or.inr (Or.inr (Or.inr ⟨h1, h2, h3⟩))))
  · exact Or.inl (Or.inr (Or.inr ⟨h1, h2, h3⟩))
theorem nAZ {t n k : Nat} (h : t ≤ 40) : ¬ AZ i t n k := by unfold AZ; omega
theorem MSR.step {m1 : Mem} {n : Nat} {pc : Int} (h : MSR m tm pc D n) (F : Fr (AMN n) m m1) (hS : MS m1 (wr tm pc D (n + 1))) (hR : MRes m1 n (if D.2.1 n 0 = 1 then ((wr tm pc D n).1.length : Int) else -1) ((wr tm pc D (n + 1)).1.length - (wr tm pc D n).1.length) (wq tm pc D n).2.1 (wq tm pc D n).2.2.1 (wq tm pc D n).2.2.2) : MSR m1 tm pc D (n + 1) := by
  refine ⟨hS, fun i hi => ?_⟩
  by_cases e : i = n
  · subst e; exact hR
  · have hn : i < n := by omega
    refine (h.2 i hn).fr F ?_ ?_ ?_ ?_ ?_
    · unfold AMN AM; omega
    · unfold AMN AM; omega
    · intro k hk; unfold AMN AM; omega
    · unfold AMN AM; omega
    · unfold AMN AM; omega
theorem nAMW {t n k : Nat} (h : t = 24 ∨ t = 27 ∨ t = 28 ∨ t = 29) : ¬ AMW t n k := by unfold AMW; omega
theorem M_writes (hE : E3 m tm D) (htm : tmOK tm) (hD : DOK D) (hB : BOK D)
    (h : ∀ m', MSR m' tm (tm 5) D D.1 → Fr AMW m m' → K none m') : smC true 175 [vR (some (23, 231))] m K := by
  have h48 := hD.1
  have h5 := htm.2.2.2.2.2.1
  have hpc : 0 ≤ tm 5 ∧ tm 5 ≤ 400 := by omega
  have loop : ∀ (q n : Nat) (m1 : Mem) (x1 : Option SV), n + q = D.1 → MSR m1 tm (tm 5) D n → Fr AMW m m1 → gI m1 23 231 44 = iZ n → smE true 175 15 [some (vR (some (23, 231))), x1] [] m1 K := by
    intro q
    induction q with
    | zero =>
      intro n m1 x1 e hM F e44
      have E1 := hE.fr F (fun t n k z => nAMW z)
      have eN : gI m1 29 237 (0 : Int32).toNatClampNeg = iZ D.1 := E1.2.2.1.1
      refine wp1_ok (by decide) OK_175 (cc := cd_175) rfl (stops := [15]) (f := 30) ?_
      refine And.intro (by rw [L0, iZ_in (by decide)]; decide) ?_
      rw [eN, e44]
      refine And.intro (fun _ => ?_) (fun z => ?_)
      · have en : n = D.1 := by omega
        subst en
        exact And.intro trivial (h m1 hM F)
      · rw [iZ_le (by constructor <;> omega) (by constructor <;> omega)] at z
        omega
    | succ q ih =>
      intro n m1 x1 e hM F e44
      have E1 := hE.fr F (fun t n k z => nAMW z)
      have eN : gI m1 29 237 (0 : Int32).toNatClampNeg = iZ D.1 := E1.2.2.1.1
      have ci : (iZ (n : Int)).toNatClampNeg = n := by rw [iZ_clamp (by constructor <;> omega)]; omega
      have hin : vp_in (iZ (n : Int)) 48 := (iZ_in (by constructor <;> omega)).mpr (by omega)
      have i0 := idx3 (i := n) (q := 0) (by omega) (by decide)
      have i1 := idx3 (i := n) (q := 1) (by omega) (by decide)
      have i2 := idx3 (i := n) (q := 2) (by omega) (by decide)
      have hlen := wr_len (pc := tm 5) htm hpc hD n (by omega)
      have hcur := wr_cur (pc := tm 5) htm hpc hD hB n (by omega)
      have n44 : ∀ {mm : Mem}, Fr (AZ n) m1 mm → gI mm 23 231 44 = iZ n := fun G => (G.2 _ _ _ (nAZ (by omega))).trans e44
      -- the note itself, its rows cleared
      have note : ∀ mm, Fr (AZ n) m1 mm → (∀ j, j < 3 → gI mm 43 251 (3 * n + j) = 0) → gI mm 44 252 n = 0 → gI mm 45 253 n = 0 → gI mm 41 249 n = -1 → gI mm 42 250 n = 0 → smE true 175 95 [some (vR (some (23, 231))), some (vI (iZ 3))] [] mm K := by
        intro mm G z3 z4 z5 z1 z2
        have Em := E1.fr G (fun t n k z => nAZ (by omega))
        have GN : Fr (AMN n) m1 mm := G.mono (fun t n k z => AZ_AMN z)
        have Sm : MS mm (wr tm (tm 5) D n) := hM.1.fr G (fun t n k z => nAZ (by omega)) (nAZ (by omega)) (nAZ (by omega))
        have next : ∀ m2, MSR m2 tm (tm 5) D (n + 1) → Fr AMW m m2 → gI m2 23 231 44 = iZ n → smE true 175 120 [some (vR (some (23, 231))), some (vI (iZ 3))] [] m2 K := by
          intro m2 M2 F2 q44
          refine wp_ok (by decide) OK_175 (cc := cd_175) rfl (stops := [15]) 30 _ _ _ _ ?_
          refine And.intro trivial ?_
          rw [q44, L1, iZ_add]
          have G2 : Fr (fun t n k => t = 23 ∧ n = 231 ∧ k = 44) m2 (sI m2 23 231 44 (iZ ((n : Int) + 1))) := Fr.st ⟨rfl, rfl, rfl⟩
          refine ih (n + 1) _ _ (by omega) ⟨M2.1.fr G2 (fun t n k z => by omega) (by omega) (by omega), fun i hi => (M2.2 i hi).fr G2 (by omega) (by omega) (fun k _ => by omega) (by omega) (by omega)⟩ (F2.tr (Fr.st (Or.inl ⟨rfl, rfl, by omega⟩))) ?_
          rw [gI_s, if_pos ⟨rfl, rfl, rfl⟩]; congr 1
        refine wp_ok (by decide) OK_175 (cc := cd_175) rfl (stops := [120]) 30 _ _ _ _ ?_
        refine And.intro trivial (M_of (i := n) (w := 0) (n44 G) rfl hD Em.2.2 (by omega) (by decide) ?_)
        rw [mw_id (by decide) (by decide)]
        have h01 := (hD.2.1 n (by omega)).1
        refine And.intro (fun z => ?_) (fun z => ?_)
        · rw [L1, iZ_eq (by rcases h01 with w | w <;> rw [w] <;> decide) (by decide)] at z
          refine And.intro trivial ?_
          have eq : wq tm (tm 5) D n = (((wr tm (tm 5) D n).1, false, (wr tm (tm 5) D n).2.2 + D.2.1 n 5), (0, 0, 0), 0, 0) := by unfold wq wN; rw [if_neg z]
          have er : wr tm (tm 5) D (n + 1) = ((wr tm (tm 5) D n).1, false, (wr tm (tm 5) D n).2.2 + D.2.1 n 5) := by rw [wr_s, eq]
          have G3 : Fr (fun t n k => t = 23 ∧ n = 231 ∧ k = 49) mm (sI mm 23 231 49 (-1)) := Fr.st ⟨rfl, rfl, rfl⟩
          have GA : Fr (AMN n) m1 (sI mm 23 231 49 (-1)) := GN.tr (Fr.st (Or.inl (Or.inl ⟨rfl, rfl, by omega⟩)))
          refine next _ (hM.step GA ?_ ?_) (F.tr (GA.mono (fun t n k z => AMN_AMW z))) (by rw [gI_s, if_neg (by omega)]; exact n44 G)
          · rw [er]
            refine ⟨⟨MV_keep (fun t n k _ ht => G3.2 t n k (by omega)) Sm.1.1, (G3.2 _ _ _ (by omega)).trans Sm.1.2.1, ?_⟩, fun w => absurd w (by simp), Sm.2.2⟩
            rw [gI_s, if_pos ⟨rfl, rfl, rfl⟩]; rfl
          · rw [eq, er, if_neg z, show (((wr tm (tm 5) D n).1.length : Int) - (wr tm (tm 5) D n).1.length) = 0 by omega]
            have w3 : ∀ j, j < 3 → gI (sI mm 23 231 49 (-1)) 43 251 (3 * n + j) = 0 := fun j hj => (G3.2 _ _ _ (by omega)).trans (z3 j hj)
            exact ⟨(G3.2 _ _ _ (by omega)).trans z1, (G3.2 _ _ _ (by omega)).trans z2, ⟨w3 0 (by decide), w3 1 (by decide), w3 2 (by decide)⟩, (G3.2 _ _ _ (by omega)).trans z4, (G3.2 _ _ _ (by omega)).trans z5⟩
        · rw [L1, iZ_eq (by rcases h01 with w | w <;> rw [w] <;> decide) (by decide)] at z
          refine And.intro trivial (M_wnote (i := n) Em htm hD (by omega) z (n44 G) Sm hcur z5 (by omega) (fun m2 S2 R2 F2 => ?_))
          have GA : Fr (AMN n) m1 m2 := GN.tr F2
          refine And.intro trivial (next m2 (hM.step GA S2 ?_) (F.tr (GA.mono (fun t n k z => AMN_AMW z))) ?_)
          · rw [if_pos z]; exact R2
          · rw [GA.2 23 231 44 (by unfold AMN AM; omega)]; exact e44
      have inner : ∀ (r k : Nat) (mm : Mem), k + r = 3 → Fr (AZ n) m1 mm → (∀ j, j < k → gI mm 43 251 (3 * n + j) = 0) → gI mm 44 252 n = 0 → gI mm 45 253 n = 0 → smE true 175 50 [some (vR (some (23, 231))), some (vI (iZ k))] [] mm K := by
        intro r
        induction r with
        | zero =>
          intro k mm ek G z3 z4 z5
          have ek : k = 3 := by omega
          subst ek
          refine wp1_ok (by decide) OK_175 (cc := cd_175) rfl (stops := [50, 95]) (f := 60) ?_
          refine And.intro (fun _ => ?_) (fun z => absurd (by decide) z)
          refine And.intro (by rw [n44 G]; exact hin) ?_
          refine And.intro (by rw [gI_s, if_neg (by omega), n44 G]; exact hin) ?_
          refine And.intro trivial ?_
          have G2 : Fr (AZ n) m1 (sI (sI mm 41 249 n (-1)) 42 250 n 0) := (G.tr (Fr.st (Or.inl ⟨rfl, rfl, rfl⟩))).tr (Fr.st (Or.inr (Or.inl ⟨rfl, rfl, rfl⟩)))
          have q2 : gI (sI mm 41 249 n (-1)) 23 231 44 = iZ n := by rw [gI_s, if_neg (by omega)]; exact n44 G
          rw [n44 G, ci, q2, ci]
          refine note _ G2 (fun j hj => ?_) ?_ ?_ ?_ ?_
          · simp only [gI_s]; simp; exact z3 j hj
          · simp only [gI_s]; simp; exact z4
          · simp only [gI_s]; simp; exact z5
          · simp only [gI_s]; simp
          · simp only [gI_s]; simp
        | succ r ihr =>
          intro k mm ek G z3 z4 z5
          have ik := idx3 (i := n) (q := k) (by omega) (by omega)
          refine wp1_ok (by decide) OK_175 (cc := cd_175) rfl (stops := [50, 95]) (f := 60) ?_
          refine And.intro (fun z => ?_) (fun _ => ?_)
          · rw [L3, iZ_le (by decide) (by constructor <;> omega)] at z
            omega
          refine And.intro (by rw [n44 G, ik.1]; exact ik.2.2) ?_
          refine And.intro trivial ?_
          rw [n44 G, ik.1, ik.2.1, L1, iZ_add]
          refine ihr (k + 1) _ (by omega) (G.tr (Fr.st (Or.inr (Or.inr (Or.inl ⟨rfl, rfl, by omega⟩))))) (fun j hj => ?_) ?_ ?_
          · rw [gI_s]
            by_cases ej : j = k
            · subst ej; rw [if_pos ⟨rfl, rfl, rfl⟩]
            · rw [if_neg (by omega)]; exact z3 j (by omega)
          · rw [gI_s, if_neg (by omega)]; exact z4
          · rw [gI_s, if_neg (by omega)]; exact z5
      refine wp1_ok (by decide) OK_175 (cc := cd_175) rfl (stops := [50]) (f := 60) ?_
      refine And.intro (by rw [L0, iZ_in (by decide)]; decide) ?_
      rw [eN, e44]
      refine And.intro (fun z => ?_) (fun _ => ?_)
      · rw [iZ_le (by constructor <;> omega) (by constructor <;> omega)] at z
        omega
      refine And.intro (by rw [e44]; exact hin) ?_
      refine And.intro (by rw [gI_s, if_neg (by omega), e44]; exact hin) ?_
      refine And.intro trivial ?_
      have q2 : gI (sI m1 44 252 n 0) 23 231 44 = iZ n := by rw [gI_s, if_neg (by omega)]; exact e44
      rw [e44, ci, q2, ci]
      refine inner 3 0 _ rfl ((Fr.st (Or.inr (Or.inr (Or.inr (Or.inl ⟨rfl, rfl, rfl⟩))))).tr (Fr.st (Or.inr (Or.inr (Or.inr (Or.inr ⟨rfl, rfl, rfl⟩)))))) (fun j hj => by omega) ?_ ?_
      · simp only [gI_s]; simp
      · simp only [gI_s]; simp
  refine smC_wp [some (vR (some (23, 231))), none] cd_175 [15] 60 OK_175 (by decide) rfl rfl (Nat.le_of_ble_eq_true rfl) ?_
  refine And.intro trivial (loop D.1 0 _ none (by omega) ⟨⟨⟨trivial, ?_, ?_⟩, fun w => absurd w (by simp [wr]), fun t ht => by simp [wr] at ht⟩, fun i hi => by omega⟩ (((Fr.st (Or.inl ⟨rfl, rfl, by omega⟩)).tr (Fr.st (Or.inl ⟨rfl, rfl, by omega⟩))).tr (Fr.st (Or.inl ⟨rfl, rfl, by omega⟩))) ?_)
  · simp only [gI_s]; simp; rfl
  · simp only [gI_s]; simp; rfl
  · simp only [gI_s]; simp; rfl
end MWR
