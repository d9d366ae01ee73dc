/-! THE CLASS's reader: bars, notes -/
def CKk (m : Mem) (k : Int × Int × Int × Int) : Prop := gI m 1 1 10 = iZ k.1 ∧ gI m 1 1 11 = iZ k.2.1 ∧ gI m 1 1 12 = iZ k.2.2.1 ∧ gI m 1 1 13 = iZ k.2.2.2
/-- what the class's reader has of the text -/
def CS (m : Mem) (tp : Nat → Int) (n sn : Nat) (p : PS) : Prop := RS m tp n p.1 ∧ CKk m p.2.1 ∧ (0 < p.2.2.2.2.2.1 → CTo m p.2.2.1) ∧ SRep m sn p.2.2.2 ∧ gP m 1 1 9 = some (10, sn)
/-- what the reading may touch -/
def AD (sn : Nat) : Nat → Nat → Nat → Prop := fun t n k => (t = 1 ∧ n = 1 ∧ 3 ≤ k) ∨ (t = 3 ∧ n = 3) ∨ ((t = 8 ∨ t = 9 ∨ t = 10 ∨ t = 12) ∧ sn ≤ n ∧ n ≤ sn + 100)
section CBAR
variable {m : Mem} {K : Option SV → Mem → Prop} {tp : Nat → Int} {n sn nn : Nat} {p : PS}
theorem AR_AD {t n k : Nat} (h : AR t n k) : AD sn t n k := Or.inl ⟨h.1, h.2.1, by have := h.2.2; omega⟩
theorem AP_AD {t n k : Nat} (h : AP t n k) : AD sn t n k := by
  rcases h with h | h
  · exact AR_AD h
  · exact Or.inr (Or.inl h)
theorem CKk.fr {A : Nat → Nat → Nat → Prop} {m' : Mem} {k : Int × Int × Int × Int} (h : CKk m k) (F : Fr A m m') (hA : ∀ j, 10 ≤ j ∧ j ≤ 13 → ¬ A 1 1 j) : CKk m' k :=
  ⟨(F.2 _ _ _ (hA 10 (by omega))).trans h.1, (F.2 _ _ _ (hA 11 (by omega))).trans h.2.1, (F.2 _ _ _ (hA 12 (by omega))).trans h.2.2.1, (F.2 _ _ _ (hA 13 (by omega))).trans h.2.2.2⟩
theorem NRep.fr {A : Nat → Nat → Nat → Prop} {m' : Mem} {c : Nat} {f : NF} (h : NRep m c f) (F : Fr A m m') (h8 : ∀ k, ¬ A 8 c k) (h9 : ∀ k, ¬ A 9 (c + 1) k) : NRep m' c f := by
  have r8 : ∀ k, gI m' 8 c k = gI m 8 c k := fun k => F.2 8 c k (h8 k)
  have r9 : ∀ k, gI m' 9 (c + 1) k = gI m 9 (c + 1) k := fun k => F.2 9 (c + 1) k (h9 k)
  unfold NRep
  simp only [r8, r9]
  exact h
theorem SRep.frd {A : Nat → Nat → Nat → Prop} {m' : Mem} {D : Dt} (h : SRep m sn D) (F : Fr A m m') (h10 : ∀ k, ¬ A 10 sn k) (h12 : ∀ k, ¬ A 12 (sn + 2) k) (h8 : ∀ i k, i < D.1 → ¬ A 8 (sn + 1 + 2 + 2 * i) k) (h9 : ∀ i k, i < D.1 → ¬ A 9 (sn + 1 + 2 + 2 * i + 1) k) : SRep m' sn D := by
  obtain ⟨⟨a1, a2, a3⟩, b, c⟩ := h
  exact ⟨⟨(F.2 _ _ _ (h10 _)).trans a1, (F.2 _ _ _ (h10 _)).trans a2, (F.2 _ _ _ (h10 _)).trans a3⟩, fun i hi => (b i hi).fr F (fun k => h8 i k hi) (fun k => h9 i k hi), fun k hk => (F.2 _ _ _ (h12 _)).trans (c k hk)⟩
theorem c_fill (h : ∀ m', CTo m' (fun _ => 2) → Fr (fun t n _ => t = 3 ∧ n = 3) m m' → K none m') : smC true 250 [vR (some (3, 3)), vI 2] m K := by
  have loop : ∀ (r j : Nat) (m1 : Mem), j + r = 63 → (∀ k, k < j → gI m1 3 3 k = iZ 2) → Fr (fun t n _ => t = 3 ∧ n = 3) m m1 → smE true 250 5 [some (vR (some (3, 3))), some (vI 2), some (vI (iZ j)), some (vI (iZ 63))] [] m1 K := by
    intro r
    induction r with
    | zero =>
      intro j m1 ej hj F
      have ej : j = 63 := by omega
      subst ej
      refine wp1_ok (by decide) OK_250 (cc := cd_250) rfl (stops := [5]) (f := 30) ?_
      refine And.intro (fun _ => And.intro trivial (h m1 hj F)) (fun z => absurd (by decide) z)
    | succ r ih =>
      intro j m1 ej hj F
      refine wp1_ok (by decide) OK_250 (cc := cd_250) rfl (stops := [5]) (f := 30) ?_
      refine And.intro (fun z => ?_) (fun _ => ?_)
      · rw [iZ_le (by decide) (by constructor <;> omega)] at z; omega
      refine And.intro ((iZ_in (by constructor <;> omega)).mpr (by omega)) ?_
      refine And.intro trivial ?_
      rw [iZ_clamp (by constructor <;> omega), show ((j : Nat) : Int).toNat = j by omega, L1, iZ_add]
      refine ih (j + 1) _ (by omega) (fun k hk => ?_) (F.tr (Fr.st ⟨rfl, rfl⟩))
      rw [gI_s]
      by_cases e : k = j
      · rw [if_pos ⟨e, rfl, rfl⟩]; rfl
      · rw [if_neg (by omega)]; exact hj k (by omega)
  refine smC_wp [some (vR (some (3, 3))), some (vI 2), none, none] cd_250 [5] 20 OK_250 (by decide) rfl rfl (Nat.le_of_ble_eq_true rfl) ?_
  exact And.intro trivial (loop 63 0 m (by omega) (fun k hk => by omega) (Fr.rf _ _))
theorem c_openBar (hP : POK tp n p 800) (hb : p.2.2.2.2.2.1 < 120) (hC : CS m tp n sn p) (h : ∀ m', CS m' tp n sn (openB p) → Fr (AD sn) m m' → gI m' 1 1 7 = gI m 1 1 7 → K none m') : smC true 16 [vR (some (1, 1))] m K := by
  obtain ⟨hR, hK, hto, hS, h9⟩ := id hC
  obtain ⟨ht, ⟨k1, k2, k3⟩, htd, s1, s2, s3, s4, s5, s6, s7, s8⟩ := hP
  refine smC_wp [some (vR (some (1, 1)))] cd_16 [21] 40 OK_16 (by decide) rfl rfl (Nat.le_of_ble_eq_true rfl) ?_
  refine Exists.intro _ (And.intro h9 ?_)
  unfold openB at h
  refine And.intro (fun z => ?_) (fun z => ?_)
  · rw [hS.1.2.2, hK.2.2.2, iZ_eq (by constructor <;> omega) (by constructor <;> omega)] at z
    rw [if_neg z] at h
    exact And.intro trivial (h m hC (Fr.rf _ _) rfl)
  rw [hS.1.2.2, hK.2.2.2, iZ_eq (by constructor <;> omega) (by constructor <;> omega)] at z
  rw [if_pos z] at h
  refine Exists.intro _ (And.intro h9 ?_)
  have h53 : ∀ {Q : Option SV → Mem → Prop}, Q none (sI (sI m 12 (sn + 2) p.2.2.2.2.2.1 (iZ p.2.2.2.2.2.2.2)) 10 sn 3 (iZ ((p.2.2.2.2.2.1 + 1 : Nat) : Int))) → smC true 53 [vR (some (10, sn))] m Q := by
    intro Q hQ
    refine smC_wp [some (vR (some (10, sn)))] cd_53 [] 40 OK_53 (by decide) rfl rfl (Nat.le_of_ble_eq_true rfl) ?_
    refine And.intro (fun y => ?_) (fun _ => ?_)
    · have y : nI 120 ≤ gI m 10 sn 3 := y
      rw [hS.1.2.1, iZ_nI, iZ_le (by decide) (by constructor <;> omega)] at y; omega
    refine And.intro (by rw [hS.1.2.1]; exact (iZ_in (by constructor <;> omega)).mpr (by omega)) ?_
    refine And.intro trivial ?_
    have e1 : gI (sI m 12 (sn + 2) p.2.2.2.2.2.1 (iZ p.2.2.2.2.2.2.2)) 10 sn 3 = iZ p.2.2.2.2.2.1 := by rw [gI_s, if_neg (by omega)]; exact hS.1.2.1
    rw [hS.1.2.1, hS.1.2.2, iZ_clamp (by constructor <;> omega), show ((p.2.2.2.2.2.1 : Nat) : Int).toNat = p.2.2.2.2.2.1 by omega, e1, L1, iZ_add]
    exact hQ
  refine And.intro trivial (h53 ?_)
  refine And.intro trivial ?_
  have F1 : Fr (fun t n k => (t = 12 ∧ n = sn + 2 ∧ k = p.2.2.2.2.2.1) ∨ (t = 10 ∧ n = sn ∧ k = 3)) m (sI (sI m 12 (sn + 2) p.2.2.2.2.2.1 (iZ p.2.2.2.2.2.2.2)) 10 sn 3 (iZ ((p.2.2.2.2.2.1 + 1 : Nat) : Int))) := (Fr.st (Or.inl ⟨rfl, rfl, rfl⟩)).tr (Fr.st (Or.inr ⟨rfl, rfl, rfl⟩))
  have b1 : gI (sI (sI m 12 (sn + 2) p.2.2.2.2.2.1 (iZ p.2.2.2.2.2.2.2)) 10 sn 3 (iZ ((p.2.2.2.2.2.1 + 1 : Nat) : Int))) 12 (sn + 2) p.2.2.2.2.2.1 = iZ p.2.2.2.2.2.2.2 := by rw [gI_s, if_neg (by omega), gI_s, if_pos ⟨rfl, rfl, rfl⟩]
  have b2 : gI (sI (sI m 12 (sn + 2) p.2.2.2.2.2.1 (iZ p.2.2.2.2.2.2.2)) 10 sn 3 (iZ ((p.2.2.2.2.2.1 + 1 : Nat) : Int))) 10 sn 3 = iZ ((p.2.2.2.2.2.1 + 1 : Nat) : Int) := by rw [gI_s, if_pos ⟨rfl, rfl, rfl⟩]
  generalize sI (sI m 12 (sn + 2) p.2.2.2.2.2.1 (iZ p.2.2.2.2.2.2.2)) 10 sn 3 (iZ ((p.2.2.2.2.2.1 + 1 : Nat) : Int)) = m1 at *
  have K1 := hK.fr F1 (fun j hj => by omega)
  refine wp1_ok (by decide) OK_16 (cc := cd_16) rfl (stops := [34]) (f := 40) ?_
  refine And.intro trivial ?_
  rw [K1.2.2.2, K1.2.2.1, iZ_add]
  refine wp1_ok (by decide) OK_16 (cc := cd_16) rfl (stops := []) (f := 40) ?_
  have F2 : Fr (fun t n k => t = 1 ∧ n = 1 ∧ k = 13) m1 (sI m1 1 1 13 (iZ (p.2.1.2.2.2 + p.2.1.2.2.1))) := Fr.st ⟨rfl, rfl, rfl⟩
  refine And.intro trivial (c_fill (fun m3 T3 F3 => ?_))
  have FQ : Fr (fun t n k => (t = 12 ∧ n = sn + 2 ∧ k = p.2.2.2.2.2.1) ∨ (t = 10 ∧ n = sn ∧ k = 3) ∨ (t = 1 ∧ n = 1 ∧ k = 13) ∨ (t = 3 ∧ n = 3)) m m3 := ((F1.mono (fun t n k z => by omega)).tr (F2.mono (fun t n k z => Or.inr (Or.inr (Or.inl z))))).tr (F3.mono (fun t n k z => Or.inr (Or.inr (Or.inr z))))
  have g12 : ∀ k, gI m3 12 (sn + 2) k = gI m1 12 (sn + 2) k := fun k => ((F3.2 _ _ _ (by omega)).trans (F2.2 _ _ _ (by omega)))
  refine And.intro trivial (h m3 ⟨hR.fr FQ (fun n k => by omega) (fun k hk => by omega), ⟨?_, ?_, ?_, ?_⟩, fun _ => T3, ⟨⟨?_, ?_, ?_⟩, fun i hi => (hS.2.1 i hi).fr FQ (fun k => by omega) (fun k => by omega), fun k hk => ?_⟩, (Fr_gP FQ _ _ _).trans h9⟩ (FQ.mono (fun t n k z => ?_)) ?_)
  · rw [F3.2 _ _ _ (by omega), F2.2 _ _ _ (by omega)]; exact K1.1
  · rw [F3.2 _ _ _ (by omega), F2.2 _ _ _ (by omega)]; exact K1.2.1
  · rw [F3.2 _ _ _ (by omega), F2.2 _ _ _ (by omega)]; exact K1.2.2.1
  · rw [F3.2 _ _ _ (by omega), gI_s, if_pos ⟨rfl, rfl, rfl⟩]
  · exact (FQ.2 _ _ _ (by omega)).trans hS.1.1
  · rw [F3.2 _ _ _ (by omega), F2.2 _ _ _ (by omega)]; exact b2
  · exact (FQ.2 _ _ _ (by omega)).trans hS.1.2.2
  · rw [g12]
    show gI m1 12 (sn + 2) k = iZ (upq p.2.2.2.2.2.2.1 p.2.2.2.2.2.1 p.2.2.2.2.2.2.2 k)
    have hk : k < p.2.2.2.2.2.1 + 1 := hk
    unfold upq
    by_cases e : k = p.2.2.2.2.2.1
    · rw [if_pos e, e]; exact b1
    · rw [if_neg e, F1.2 _ _ _ (by omega)]; exact hS.2.2 k (by omega)
  · rcases z with z | z | z | z
    · exact Or.inr (Or.inr (by omega))
    · exact Or.inr (Or.inr (by omega))
    · exact Or.inl (by omega)
    · exact Or.inr (Or.inl z)
  · exact FQ.2 _ _ _ (by omega)
end CBAR
