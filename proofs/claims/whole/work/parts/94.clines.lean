/-! THE CLASS's reader: lines -/
section CLINE
variable {m : Mem} {K : Option SV → Mem → Prop} {tp : Nat → Int} {n sn q ls : Nat} {p : PS}
abbrev AX (sn nn : Nat) : Nat → Nat → Nat → Prop := fun t n k => (t = 1 ∧ n = 1 ∧ 3 ≤ k ∧ (k < 10 ∨ 13 < k)) ∨ (t = 3 ∧ n = 3) ∨ (t = 8 ∧ n = nn) ∨ (t = 9 ∧ n = nn + 1) ∨ (t = 10 ∧ n = sn ∧ (k = 1 ∨ k = 4))
theorem AX_AD {c t n k : Nat} (hc : c < 49) (z : AX sn (sn + 1 + 2 + 2 * c) t n k) : AD sn t n k := by
  rcases z with z | z | z | z | z
  · exact Or.inl ⟨z.1, z.2.1, z.2.2.1⟩
  · exact Or.inr (Or.inl z)
  · exact Or.inr (Or.inr ⟨Or.inl z.1, by omega⟩)
  · exact Or.inr (Or.inr ⟨Or.inr (Or.inl z.1), by omega⟩)
  · exact Or.inr (Or.inr ⟨Or.inr (Or.inr (Or.inl z.1)), by omega⟩)
theorem SRep_add {m' : Mem} {D : Dt} {f : NF} {l : Int} (h : SRep m sn D) (F : Fr (AX sn (sn + 1 + 2 + 2 * D.1)) m m') (e1 : gI m' 10 sn 1 = iZ ((D.1 : Int) + 1)) (e4 : gI m' 10 sn 4 = iZ (D.2.2.2.2 + l)) (hN : NRep m' (sn + 1 + 2 + 2 * D.1) f) : SRep m' sn (addN D f l) := by
  obtain ⟨⟨a1, a2, a3⟩, b, c⟩ := h
  refine ⟨⟨e1, (F.2 _ _ _ (by omega)).trans a2, e4⟩, fun i hi => ?_, fun k hk => (F.2 _ _ _ (by omega)).trans (c k hk)⟩
  have hi : i < D.1 + 1 := hi
  show NRep m' (sn + 1 + 2 + 2 * i) (upq D.2.1 D.1 f i)
  by_cases e : i = D.1
  · subst e; rw [upq_s]; exact hN
  · have : upq D.2.1 D.1 f i = D.2.1 i := by unfold upq; rw [if_neg e]
    rw [this]
    exact (b i (by omega)).fr F (fun k => by omega) (fun k => by omega)
theorem CS.rd {m' : Mem} {t' : TK} (hC : CS m tp n sn p) (F : Fr AR m m') (R : RS m' tp n t') : CS m' tp n sn (t', p.2) := by
  obtain ⟨_, hK, hto, hS, h9⟩ := hC
  exact ⟨R, hK.fr F (fun j hj => by unfold AR; omega), fun z k hk => (F.2 _ _ _ (by unfold AR; omega)).trans (hto z k hk), hS.frd F (fun k => by unfold AR; omega) (fun k => by unfold AR; omega) (fun i k _ => by unfold AR; omega) (fun i k _ => by unfold AR; omega), (Fr_gP F _ _ _).trans h9⟩
theorem c_readRest (hT : TPOK tp) (hn : n ≤ 800) (hq : q + 3 ≤ p.1.2.1) (hP : POK tp n p q) (hC : CS m tp n sn p) (h7 : gI m 1 1 7 = iZ ls)
    (hF : ∀ m' e, pRest tp n ls p = .inl e → FTd m' e → Fr (AD sn) m m' → K (some (vI 0)) m') (hS : ∀ m' p', pRest tp n ls p = .inr p' → CS m' tp n sn p' → Fr (AD sn) m m' → K (some (vI 1)) m') : smC true 32 [vR (some (1, 1))] m K := by
  have hpl := hP.1.2.1
  obtain ⟨ho, hb, hb2⟩ := openB_ok hP (by omega)
  have h5 := hP.2.2.2.2.2.2.2.1
  unfold pRest at hF hS
  simp only at hF hS
  refine smC_wp [some (vR (some (1, 1))), none] cd_32 [48] 60 OK_32 (by decide) rfl rfl (Nat.le_of_ble_eq_true rfl) ?_
  refine And.intro trivial (c_openBar ⟨hP.1, hP.2.1, hP.2.2.1, hP.2.2.2.mono (by omega)⟩ (by omega) hC (fun m1 C1 F1 e7 => ?_))
  generalize openB p = o at *
  refine And.intro trivial (c_readFraction (mu := 32) (ml := 32) rfl rfl (by decide) (by decide) hT hn ho.1 C1.1 (fun m2 e h1 f2 F2 => ?_) (fun m2 l t' h1 R2 e8 F2 => ?_))
  · refine And.intro (fun z => absurd rfl z) (fun _ => ?_)
    exact And.intro (Or.inl rfl) (hF m2 e (by rw [h1]) f2 (F1.tr (F2.mono (fun t n k z => AR_AD z))))
  have fr := pFrac_ok hT hn ho.1 (by decide) h1
  rw [h1] at hF hS
  simp only at hF hS
  have C2 := C1.rd F2 R2
  have F12 : Fr (AD sn) m m2 := F1.tr (F2.mono (fun t n k z => AR_AD z))
  have q7 : gI m2 1 1 7 = iZ ls := ((F2.2 _ _ _ (by unfold AR; omega)).trans e7).trans h7
  have hK : CKk m2 o.2.1 := C2.2.1
  have hto : 0 < o.2.2.2.2.2.1 → CTo m2 o.2.2.1 := C2.2.2.1
  have hSR : SRep m2 sn o.2.2.2 := C2.2.2.2.1
  have h9 : gP m2 1 1 9 = some (10, sn) := C2.2.2.2.2
  have s1 := ho.2.2.2.1
  have s4 := ho.2.2.2.2.2.2.1
  have fail : (48 ≤ o.2.2.2.1 ∨ o.2.1.2.2.2 < o.2.2.2.2.2.2.2 + l) → smE true 32 48 [some (vR (some (1, 1))), none] [] m2 K := by
    intro hc
    rw [if_pos hc] at hF
    refine wp_ok (by decide) OK_32 (cc := cd_32) rfl (stops := []) 30 _ _ _ _ ?_
    refine And.intro trivial (c_fail (a := 3) (p := ls) rfl q7 (fun m3 f1 f2 F3 => ?_))
    exact And.intro (Or.inl rfl) (hF m3 _ rfl ⟨f1, f2⟩ (F12.tr (F3.mono (fun t n k z => AR_AD (AF_AR z)))))
  refine And.intro (fun _ => ?_) (fun z => absurd z (by decide))
  refine Exists.intro _ (And.intro h9 ?_)
  refine And.intro (fun z => ?_) (fun z => ?_)
  · rw [hSR.1.1, L48, iZ_le (by decide) (by constructor <;> omega)] at z
    exact And.intro trivial (fail (Or.inl (by omega)))
  rw [hSR.1.1, L48, iZ_le (by decide) (by constructor <;> omega)] at z
  refine Exists.intro _ (And.intro h9 ?_)
  refine And.intro (fun y => ?_) (fun y => ?_)
  rotate_left
  · rw [hSR.1.2.2, e8, hK.2.2.2, iZ_add, iZ_le (by constructor <;> omega) (by constructor <;> omega)] at y
    exact And.intro trivial (fail (Or.inr (by omega)))
  rw [hSR.1.2.2, e8, hK.2.2.2, iZ_add, iZ_le (by constructor <;> omega) (by constructor <;> omega)] at y
  rw [if_neg (by omega)] at hS
  refine Exists.intro _ (And.intro h9 ?_)
  refine Exists.intro _ (And.intro h9 ?_)
  refine And.intro (by rw [hSR.1.1]; exact (iZ_in (by constructor <;> omega)).mpr (by omega)) ?_
  have ec : (gI m2 10 sn 1).toNatClampNeg = o.2.2.2.1 := by rw [hSR.1.1, iZ_clamp (by constructor <;> omega)]; omega
  rw [ec]
  refine And.intro trivial (c_clearN (nn := sn + 1 + 2 + 2 * o.2.2.2.1) (fun m3 c0 c6 c7 c9 c10 c11 c12 F3 => ?_))
  have K3 := hK.fr F3 (fun j hj => by omega)
  have S3 : SRep m3 sn o.2.2.2 := hSR.frd F3 (fun k => by omega) (fun k => by omega) (fun i k hi => by omega) (fun i k hi => by omega)
  have g3 : gP m3 1 1 9 = some (10, sn) := (Fr_gP F3 _ _ _).trans h9
  refine And.intro trivial (c_addNote (nn := sn + 1 + 2 + 2 * o.2.2.2.1) (l := l) ((F3.2 _ _ _ (by omega)).trans e8) K3 S3 g3 (fun m4 a1 a2 a3 a4 a5 b1 b4 F4 => ?_))
  have FX3 : Fr (AX sn (sn + 1 + 2 + 2 * o.2.2.2.1)) m2 m3 := F3.mono (fun t n k z => by omega)
  have FX4 : Fr (AX sn (sn + 1 + 2 + 2 * o.2.2.2.1)) m3 m4 := F4.mono (fun t n k z => by omega)
  have FX34 := FX3.tr FX4
  refine And.intro (Or.inr rfl) (hS m4 _ rfl ⟨?_, ?_, ?_, ?_, ?_⟩ ?_)
  · exact (R2.fr F3 (fun n k => by omega) (fun k hk => by omega)).fr F4 (fun n k => by omega) (fun k hk => by omega)
  · exact hK.fr FX34 (fun j hj => by omega)
  · intro hz k hk
    rw [F4.2 _ _ _ (by omega), F3.2 _ _ _ (by omega)]; exact hto hz k hk
  · refine SRep_add hSR FX34 b1 b4 ⟨⟨?_, a1, a2, a3, a4, a5, ?_, ?_, ?_, ?_⟩, fun hz => absurd hz (by show ¬ (0 : Int) = 1; decide)⟩
    · rw [F4.2 _ _ _ (by omega), c0]; rfl
    · rw [F4.2 _ _ _ (by omega), c6]; rfl
    · rw [F4.2 _ _ _ (by omega), c7]; rfl
    · rw [F4.2 _ _ _ (by omega), c9]; rfl
    · rw [F4.2 _ _ _ (by omega), c12]; rfl
  · exact (Fr_gP FX34 _ _ _).trans h9
  · exact F12.tr (FX34.mono (fun t n k z => AX_AD (by omega) z))
theorem c_readTie (hT : TPOK tp) (hn : n ≤ 800) (hq : q + 3 ≤ p.1.2.1) (hP : POK tp n p q) (hC : CS m tp n sn p) (h7 : gI m 1 1 7 = iZ ls)
    (hF : ∀ m' e, pTie tp n ls p = .inl e → FTd m' e → Fr (AD sn) m m' → K (some (vI 0)) m') (hS : ∀ m' p', pTie tp n ls p = .inr p' → CS m' tp n sn p' → Fr (AD sn) m m' → K (some (vI 1)) m') : smC true 33 [vR (some (1, 1))] m K := by
  have hpl := hP.1.2.1
  obtain ⟨ho, hb, hb2⟩ := openB_ok hP (by omega)
  have h5 := hP.2.2.2.2.2.2.2.1
  unfold pTie at hF hS
  simp only at hF hS
  refine smC_wp [some (vR (some (1, 1))), none] cd_33 [] 60 OK_33 (by decide) rfl rfl (Nat.le_of_ble_eq_true rfl) ?_
  refine And.intro trivial (c_openBar ⟨hP.1, hP.2.1, hP.2.2.1, hP.2.2.2.mono (by omega)⟩ (by omega) hC (fun m1 C1 F1 e7 => ?_))
  generalize openB p = o at *
  refine And.intro trivial (c_readFraction (mu := 32) (ml := 32) rfl rfl (by decide) (by decide) hT hn ho.1 C1.1 (fun m2 e h1 f2 F2 => ?_) (fun m2 l t' h1 R2 e8 F2 => ?_))
  · refine And.intro (fun z => absurd rfl z) (fun _ => ?_)
    exact And.intro (Or.inl rfl) (hF m2 e (by rw [h1]) f2 (F1.tr (F2.mono (fun t n k z => AR_AD z))))
  have fr := pFrac_ok hT hn ho.1 (by decide) h1
  rw [h1] at hF hS
  simp only at hF hS
  have C2 := C1.rd F2 R2
  have F12 : Fr (AD sn) m m2 := F1.tr (F2.mono (fun t n k z => AR_AD z))
  have q7 : gI m2 1 1 7 = iZ ls := ((F2.2 _ _ _ (by unfold AR; omega)).trans e7).trans h7
  have hK : CKk m2 o.2.1 := C2.2.1
  have hto : 0 < o.2.2.2.2.2.1 → CTo m2 o.2.2.1 := C2.2.2.1
  have hSR : SRep m2 sn o.2.2.2 := C2.2.2.2.1
  have h9 : gP m2 1 1 9 = some (10, sn) := C2.2.2.2.2
  have s1 := ho.2.2.2.1
  have s2 := ho.2.2.2.2.1
  have s4 := ho.2.2.2.2.2.2.1
  have hDO : DOK o.2.2.2 := ⟨s1, fun i hi => (s2 i hi).1, by omega⟩
  have fail : ∀ x1, (x1 = vR none ∨ ∃ c, x1 = vR (some (8, c))) → (¬ (0 < o.2.2.2.1 ∧ o.2.2.2.2.1 (o.2.2.2.1 - 1) 0 = 1) ∨ o.2.1.2.2.2 < o.2.2.2.2.2.2.2 + l) → smE true 33 57 [some (vR (some (1, 1))), some x1] [] m2 K := by
    intro x1 hx1 hc
    rw [if_pos hc] at hF
    refine wp_ok (by decide) OK_33 (cc := cd_33) rfl (stops := []) 30 _ _ _ _ ?_
    refine And.intro trivial (c_fail (a := 3) (p := ls) rfl q7 (fun m3 f1 f2 F3 => ?_))
    exact And.intro (Or.inl rfl) (hF m3 _ rfl ⟨f1, f2⟩ (F12.tr (F3.mono (fun t n k z => AR_AD (AF_AR z)))))
  refine And.intro (fun _ => ?_) (fun z => absurd z (by decide))
  refine Exists.intro _ (And.intro h9 ?_)
  refine Exists.intro _ (And.intro h9 ?_)
  refine And.intro trivial (c_playedNote (i := (o.2.2.2.1 : Int) - 1) (by rw [hSR.1.1, L1, iZ_sub]) (by constructor <;> omega) hDO hSR (fun w1 w2 => ?_) (fun w => ?_))
  rotate_left
  · have hw : ¬ (0 < o.2.2.2.1 ∧ o.2.2.2.2.1 (o.2.2.2.1 - 1) 0 = 1) := by
      intro u
      refine w ⟨by omega, by omega, ?_⟩
      rw [show ((o.2.2.2.1 : Int) - 1).toNat = o.2.2.2.1 - 1 by omega]; exact u.2
    refine And.intro trivial (c_fail (a := 3) (p := ls) rfl q7 (fun m3 f1 f2 F3 => ?_))
    rw [if_pos (Or.inl hw)] at hF
    exact And.intro (Or.inl rfl) (hF m3 _ rfl ⟨f1, f2⟩ (F12.tr (F3.mono (fun t n k z => AR_AD (AF_AR z)))))
  have ei : ((o.2.2.2.1 : Int) - 1).toNat = o.2.2.2.1 - 1 := by omega
  rw [ei] at w2 ⊢
  have hN : 0 < o.2.2.2.1 := by omega
  refine Exists.intro _ (And.intro h9 ?_)
  refine And.intro (fun y => ?_) (fun y => ?_)
  rotate_left
  · rw [hSR.1.2.2, e8, hK.2.2.2, iZ_add, iZ_le (by constructor <;> omega) (by constructor <;> omega)] at y
    refine And.intro trivial (c_fail (a := 3) (p := ls) rfl q7 (fun m3 f1 f2 F3 => ?_))
    rw [if_pos (Or.inr (by omega))] at hF
    exact And.intro (Or.inl rfl) (hF m3 _ rfl ⟨f1, f2⟩ (F12.tr (F3.mono (fun t n k z => AR_AD (AF_AR z)))))
  rw [hSR.1.2.2, e8, hK.2.2.2, iZ_add, iZ_le (by constructor <;> omega) (by constructor <;> omega)] at y
  rw [if_neg (by
    rintro (u | u)
    · exact u ⟨hN, w2⟩
    · omega)] at hS
  refine Exists.intro _ (And.intro h9 ?_)
  have hNR := hSR.2.1 (o.2.2.2.1 - 1) (by omega)
  have q6 : gI (sI m2 8 (sn + 1 + 2 + 2 * (o.2.2.2.1 - 1)) 2 (iZ (o.2.2.2.2.1 (o.2.2.2.1 - 1) 5 + l))) 8 (sn + 1 + 2 + 2 * (o.2.2.2.1 - 1)) 6 = iZ (o.2.2.2.2.1 (o.2.2.2.1 - 1) 7) := by rw [gI_s, if_neg (by omega)]; exact hNR.1.2.2.2.2.2.2.1
  have q4 : gI (sI (sI m2 8 (sn + 1 + 2 + 2 * (o.2.2.2.1 - 1)) 2 (iZ (o.2.2.2.2.1 (o.2.2.2.1 - 1) 5 + l))) 8 (sn + 1 + 2 + 2 * (o.2.2.2.1 - 1)) 6 (iZ (o.2.2.2.2.1 (o.2.2.2.1 - 1) 7 + 1))) 10 sn 4 = iZ o.2.2.2.2.2.2.2 := by rw [gI_s, if_neg (by omega), gI_s, if_neg (by omega)]; exact hSR.1.2.2
  have q8 : gI (sI (sI m2 8 (sn + 1 + 2 + 2 * (o.2.2.2.1 - 1)) 2 (iZ (o.2.2.2.2.1 (o.2.2.2.1 - 1) 5 + l))) 8 (sn + 1 + 2 + 2 * (o.2.2.2.1 - 1)) 6 (iZ (o.2.2.2.2.1 (o.2.2.2.1 - 1) 7 + 1))) 1 1 8 = iZ l := by rw [gI_s, if_neg (by omega), gI_s, if_neg (by omega)]; exact e8
  refine And.intro (Or.inr rfl) ?_
  rw [hNR.1.2.2.1, e8, iZ_add, q6, L1, iZ_add, q4, q8, iZ_add]
  have FZ : Fr (fun t n k => (t = 8 ∧ n = sn + 1 + 2 + 2 * (o.2.2.2.1 - 1) ∧ (k = 2 ∨ k = 6)) ∨ (t = 10 ∧ n = sn ∧ k = 4)) m2 (sI (sI (sI m2 8 (sn + 1 + 2 + 2 * (o.2.2.2.1 - 1)) 2 (iZ (o.2.2.2.2.1 (o.2.2.2.1 - 1) 5 + l))) 8 (sn + 1 + 2 + 2 * (o.2.2.2.1 - 1)) 6 (iZ (o.2.2.2.2.1 (o.2.2.2.1 - 1) 7 + 1))) 10 sn 4 (iZ (o.2.2.2.2.2.2.2 + l))) := ((Fr.st (Or.inl ⟨rfl, rfl, Or.inl rfl⟩)).tr (Fr.st (Or.inl ⟨rfl, rfl, Or.inr rfl⟩))).tr (Fr.st (Or.inr ⟨rfl, rfl, rfl⟩))
  have z2 : gI (sI (sI (sI m2 8 (sn + 1 + 2 + 2 * (o.2.2.2.1 - 1)) 2 (iZ (o.2.2.2.2.1 (o.2.2.2.1 - 1) 5 + l))) 8 (sn + 1 + 2 + 2 * (o.2.2.2.1 - 1)) 6 (iZ (o.2.2.2.2.1 (o.2.2.2.1 - 1) 7 + 1))) 10 sn 4 (iZ (o.2.2.2.2.2.2.2 + l))) 8 (sn + 1 + 2 + 2 * (o.2.2.2.1 - 1)) 2 = iZ (o.2.2.2.2.1 (o.2.2.2.1 - 1) 5 + l) := by simp only [gI_s]; simp
  have z6 : gI (sI (sI (sI m2 8 (sn + 1 + 2 + 2 * (o.2.2.2.1 - 1)) 2 (iZ (o.2.2.2.2.1 (o.2.2.2.1 - 1) 5 + l))) 8 (sn + 1 + 2 + 2 * (o.2.2.2.1 - 1)) 6 (iZ (o.2.2.2.2.1 (o.2.2.2.1 - 1) 7 + 1))) 10 sn 4 (iZ (o.2.2.2.2.2.2.2 + l))) 8 (sn + 1 + 2 + 2 * (o.2.2.2.1 - 1)) 6 = iZ (o.2.2.2.2.1 (o.2.2.2.1 - 1) 7 + 1) := by simp only [gI_s]; simp
  have z4 : gI (sI (sI (sI m2 8 (sn + 1 + 2 + 2 * (o.2.2.2.1 - 1)) 2 (iZ (o.2.2.2.2.1 (o.2.2.2.1 - 1) 5 + l))) 8 (sn + 1 + 2 + 2 * (o.2.2.2.1 - 1)) 6 (iZ (o.2.2.2.2.1 (o.2.2.2.1 - 1) 7 + 1))) 10 sn 4 (iZ (o.2.2.2.2.2.2.2 + l))) 10 sn 4 = iZ (o.2.2.2.2.2.2.2 + l) := by simp only [gI_s]; simp
  generalize sI (sI (sI m2 8 (sn + 1 + 2 + 2 * (o.2.2.2.1 - 1)) 2 (iZ (o.2.2.2.2.1 (o.2.2.2.1 - 1) 5 + l))) 8 (sn + 1 + 2 + 2 * (o.2.2.2.1 - 1)) 6 (iZ (o.2.2.2.2.1 (o.2.2.2.1 - 1) 7 + 1))) 10 sn 4 (iZ (o.2.2.2.2.2.2.2 + l)) = m3 at *
  refine hS m3 _ rfl ⟨R2.fr FZ (fun n k => by omega) (fun k hk => by omega), hK.fr FZ (fun j hj => by omega), fun hz k hk => (FZ.2 _ _ _ (by omega)).trans (hto hz k hk), ⟨⟨(FZ.2 _ _ _ (by omega)).trans hSR.1.1, (FZ.2 _ _ _ (by omega)).trans hSR.1.2.1, z4⟩, fun i hi => ?_, fun k hk => (FZ.2 _ _ _ (by omega)).trans (hSR.2.2 k hk)⟩, (Fr_gP FZ _ _ _).trans h9⟩ (F12.tr (FZ.mono (fun t n k w => ?_)))
  · have hi : i < o.2.2.2.1 := hi
    show NRep m3 (sn + 1 + 2 + 2 * i) (upq o.2.2.2.2.1 (o.2.2.2.1 - 1) (tieF (o.2.2.2.2.1 (o.2.2.2.1 - 1)) l) i)
    by_cases ee : i = o.2.2.2.1 - 1
    · rw [ee, upq_s]
      obtain ⟨⟨b0, b1, b2, b3, b4, b5, b6, b7, b9, b12⟩, bb⟩ := hNR
      have r8 : ∀ k, k ≠ 2 → k ≠ 6 → gI m3 8 (sn + 1 + 2 + 2 * (o.2.2.2.1 - 1)) k = gI m2 8 (sn + 1 + 2 + 2 * (o.2.2.2.1 - 1)) k := fun k v1 v2 => FZ.2 _ _ _ (by omega)
      refine ⟨⟨(r8 0 (by omega) (by omega)).trans b0, (r8 1 (by omega) (by omega)).trans b1, z2, (r8 3 (by omega) (by omega)).trans b3, (r8 4 (by omega) (by omega)).trans b4, (r8 5 (by omega) (by omega)).trans b5, z6, (r8 7 (by omega) (by omega)).trans b7, (r8 9 (by omega) (by omega)).trans b9, (r8 12 (by omega) (by omega)).trans b12⟩, fun hz => ?_⟩
      have bz := bb hz
      refine ⟨⟨(r8 10 (by omega) (by omega)).trans bz.1.1, (r8 11 (by omega) (by omega)).trans bz.1.2.1, (r8 13 (by omega) (by omega)).trans bz.1.2.2.1, (r8 14 (by omega) (by omega)).trans bz.1.2.2.2.1, (r8 15 (by omega) (by omega)).trans bz.1.2.2.2.2⟩, fun j hj => ?_⟩
      have eg : nGr (tieF (o.2.2.2.2.1 (o.2.2.2.1 - 1)) l) j = nGr (o.2.2.2.2.1 (o.2.2.2.1 - 1)) j := by
        unfold nGr
        rw [tieF_ne (by omega) (by omega), tieF_ne (by omega) (by omega), tieF_ne (by omega) (by omega)]
      rw [eg, FZ.2 _ _ _ (by omega)]
      exact bz.2 j hj
    · have eu : upq o.2.2.2.2.1 (o.2.2.2.1 - 1) (tieF (o.2.2.2.2.1 (o.2.2.2.1 - 1)) l) i = o.2.2.2.2.1 i := by unfold upq; rw [if_neg ee]
      rw [eu]
      exact (hSR.2.1 i hi).fr FZ (fun k => by omega) (fun k => by omega)
  · rcases w with w | w
    · exact Or.inr (Or.inr ⟨Or.inl w.1, by omega⟩)
    · exact Or.inr (Or.inr ⟨Or.inr (Or.inr (Or.inl w.1)), by omega⟩)
theorem c_readSpeed (hT : TPOK tp) (hn : n ≤ 800) (hP : POK tp n p q) (hC : CS m tp n sn p)
    (hF : ∀ m' e, pSpeed tp n p = .inl e → FTd m' e → Fr (AD sn) m m' → K (some (vI 0)) m') (hS : ∀ m' p', pSpeed tp n p = .inr p' → CS m' tp n sn p' → Fr (AD sn) m m' → K (some (vI 1)) m') : smC true 36 [vR (some (1, 1))] m K := by
  unfold pSpeed at hF hS
  refine smC_wp [some (vR (some (1, 1)))] cd_36 [] 60 OK_36 (by decide) rfl rfl (Nat.le_of_ble_eq_true rfl) ?_
  refine And.intro trivial (c_readNumber (lo := 20) (hi := 400) rfl rfl (by decide) (by decide) hT hn hP.1 hC.1 (fun m1 e h1 f1 F1 => ?_) (fun m1 v t' h1 rv R1 e8 F1 => ?_))
  · refine And.intro (fun z => absurd rfl z) (fun _ => ?_)
    exact And.intro (Or.inl rfl) (hF m1 e (by rw [h1]) f1 (F1.mono (fun t n k z => AR_AD z)))
  rw [h1] at hS
  refine And.intro (fun _ => ?_) (fun z => absurd z (by decide))
  refine And.intro (Or.inr rfl) ?_
  rw [e8]
  have C1 := hC.rd F1 R1
  have FZ : Fr (fun t n k => t = 1 ∧ n = 1 ∧ k = 11) m1 (sI m1 1 1 11 (iZ v)) := Fr.st ⟨rfl, rfl, rfl⟩
  have hK : CKk m1 p.2.1 := C1.2.1
  have hSR : SRep m1 sn p.2.2.2 := C1.2.2.2.1
  refine hS _ _ rfl ⟨R1.fr FZ (fun n k => by omega) (fun k hk => by omega), ⟨(FZ.2 _ _ _ (by omega)).trans hK.1, by rw [gI_s, if_pos ⟨rfl, rfl, rfl⟩], (FZ.2 _ _ _ (by omega)).trans hK.2.2.1, (FZ.2 _ _ _ (by omega)).trans hK.2.2.2⟩, fun hz k hk => (FZ.2 _ _ _ (by omega)).trans (C1.2.2.1 hz k hk), hSR.frd FZ (fun k => by omega) (fun k => by omega) (fun i k _ => by omega) (fun i k _ => by omega), (Fr_gP FZ _ _ _).trans C1.2.2.2.2⟩ ((F1.mono (fun t n k z => AR_AD z)).tr (Fr.st (Or.inl ⟨rfl, rfl, by omega⟩)))
theorem c_readMeter (hT : TPOK tp) (hn : n ≤ 800) (hP : POK tp n p q) (hq : q ≤ 800) (hC : CS m tp n sn p) (h7 : gI m 1 1 7 = iZ ls)
    (hF : ∀ m' e, pMeter tp n ls p = .inl e → FTd m' e → Fr (AD sn) m m' → K (some (vI 0)) m') (hS : ∀ m' p', pMeter tp n ls p = .inr p' → CS m' tp n sn p' → Fr (AD sn) m m' → K (some (vI 1)) m') : smC true 35 [vR (some (1, 1))] m K := by
  unfold pMeter at hF hS
  have s4 := hP.2.2.2.2.2.2.1
  have h5 := hP.2.2.2.2.2.2.2.1
  refine smC_wp [some (vR (some (1, 1)))] cd_35 [] 60 OK_35 (by decide) rfl rfl (Nat.le_of_ble_eq_true rfl) ?_
  refine And.intro trivial (c_readFraction (mu := 16) (ml := 16) rfl rfl (by decide) (by decide) hT hn hP.1 hC.1 (fun m1 e h1 f1 F1 => ?_) (fun m1 l t' h1 R1 e8 F1 => ?_))
  · refine And.intro (fun z => absurd rfl z) (fun _ => ?_)
    exact And.intro (Or.inl rfl) (hF m1 e (by rw [h1]) f1 (F1.mono (fun t n k z => AR_AD z)))
  rw [h1] at hF hS
  simp only at hF hS
  have C1 := hC.rd F1 R1
  have hK : CKk m1 p.2.1 := C1.2.1
  have hSR : SRep m1 sn p.2.2.2 := C1.2.2.2.1
  have q7 : gI m1 1 1 7 = iZ ls := (F1.2 _ _ _ (by unfold AR; omega)).trans h7
  refine And.intro (fun _ => ?_) (fun z => absurd z (by decide))
  refine Exists.intro _ (And.intro C1.2.2.2.2 ?_)
  refine And.intro (fun y => ?_) (fun y => ?_)
  rotate_left
  · rw [hSR.1.2.2, hK.2.2.2, iZ_eq (by constructor <;> omega) (by constructor <;> omega)] at y
    rw [if_pos y] at hF
    refine And.intro trivial (c_fail (a := 3) (p := ls) rfl q7 (fun m3 f1 f2 F3 => ?_))
    exact And.intro (Or.inl rfl) (hF m3 _ rfl ⟨f1, f2⟩ ((F1.mono (fun t n k z => AR_AD z)).tr (F3.mono (fun t n k z => AR_AD (AF_AR z)))))
  rw [hSR.1.2.2, hK.2.2.2, iZ_eq (by constructor <;> omega) (by constructor <;> omega)] at y
  rw [if_neg (fun w => w y)] at hS
  refine And.intro (Or.inr rfl) ?_
  rw [e8]
  have FZ : Fr (fun t n k => t = 1 ∧ n = 1 ∧ k = 12) m1 (sI m1 1 1 12 (iZ l)) := Fr.st ⟨rfl, rfl, rfl⟩
  refine hS _ _ rfl ⟨R1.fr FZ (fun n k => by omega) (fun k hk => by omega), ⟨(FZ.2 _ _ _ (by omega)).trans hK.1, (FZ.2 _ _ _ (by omega)).trans hK.2.1, by rw [gI_s, if_pos ⟨rfl, rfl, rfl⟩], (FZ.2 _ _ _ (by omega)).trans hK.2.2.2⟩, fun hz k hk => (FZ.2 _ _ _ (by omega)).trans (C1.2.2.1 hz k hk), hSR.frd FZ (fun k => by omega) (fun k => by omega) (fun i k _ => by omega) (fun i k _ => by omega), (Fr_gP FZ _ _ _).trans C1.2.2.2.2⟩ ((F1.mono (fun t n k z => AR_AD z)).tr (Fr.st (Or.inl ⟨rfl, rfl, by omega⟩)))
theorem c_readKey (hT : TPOK tp) (hn : n ≤ 800) (hP : POK tp n p q) (hC : CS m tp n sn p)
    (hF : ∀ m' e, pKey tp n p = .inl e → FTd m' e → Fr (AD sn) m m' → K (some (vI 0)) m') (hS : ∀ m' p', pKey tp n p = .inr p' → CS m' tp n sn p' → Fr (AD sn) m m' → K (some (vI 1)) m') : smC true 34 [vR (some (1, 1))] m K := by
  unfold pKey at hF hS
  have rest : ∀ (fl : Bool) (m1 : Mem) (ta : TK), (fl = true ↔ p.1.1 = 3 ∧ p.1.2.2.1 = 45) → ta = (if p.1.1 = 3 ∧ p.1.2.2.1 = 45 then nx tp n p.1 else p.1) → TOK tp n ta → RS m1 tp n ta → Fr AT m m1 → smE true 34 7 [some (vR (some (1, 1))), some (vI (if fl then 1 else 0))] [] m1 K := by
    intro fl m1 ta hfl eta hta R1 F1
    rw [← eta] at hF hS
    have C1 := hC.rd (F1.mono (fun t n k z => AT_AR z)) R1
    refine wp_ok (by decide) OK_34 (cc := cd_34) rfl (stops := [36]) 60 _ _ _ _ ?_
    refine And.intro trivial (c_readNumber (lo := 0) (hi := 7) rfl rfl (by decide) (by decide) hT hn hta R1 (fun m2 e h1 f1 F2 => ?_) (fun m2 v t' h1 rv R2 e8 F2 => ?_))
    · refine And.intro (fun z => absurd rfl z) (fun _ => ?_)
      exact And.intro (Or.inl rfl) (hF m2 e (by rw [h1]) f1 (((F1.mono (fun t n k z => AT_AR z)).tr F2).mono (fun t n k z => AR_AD z)))
    rw [h1] at hS
    simp only at hS
    have C2 := C1.rd F2 R2
    have hK : CKk m2 p.2.1 := C2.2.1
    have hSR : SRep m2 sn p.2.2.2 := C2.2.2.2.1
    have fin : ∀ w : Int, w = (if p.1.1 = 3 ∧ p.1.2.2.1 = 45 then -v else v) → smE true 34 36 [some (vR (some (1, 1))), some (vI (if fl then 1 else 0))] [vI (iZ w), vR (some (1, 1))] m2 K := by
      intro w ew
      refine wp_ok (by decide) OK_34 (cc := cd_34) rfl (stops := []) 20 _ _ _ _ ?_
      refine And.intro (Or.inr rfl) ?_
      have FZ : Fr (fun t n k => t = 1 ∧ n = 1 ∧ k = 10) m2 (sI m2 1 1 10 (iZ w)) := Fr.st ⟨rfl, rfl, rfl⟩
      refine hS _ _ rfl ⟨R2.fr FZ (fun n k => by omega) (fun k hk => by omega), ⟨by rw [gI_s, if_pos ⟨rfl, rfl, rfl⟩, ew], (FZ.2 _ _ _ (by omega)).trans hK.2.1, (FZ.2 _ _ _ (by omega)).trans hK.2.2.1, (FZ.2 _ _ _ (by omega)).trans hK.2.2.2⟩, fun hz k hk => (FZ.2 _ _ _ (by omega)).trans (C2.2.2.1 hz k hk), hSR.frd FZ (fun k => by omega) (fun k => by omega) (fun i k _ => by omega) (fun i k _ => by omega), (Fr_gP FZ _ _ _).trans C2.2.2.2.2⟩ ((((F1.mono (fun t n k z => AT_AR z)).tr F2).mono (fun t n k z => AR_AD z)).tr (Fr.st (Or.inl ⟨rfl, rfl, by omega⟩)))
    refine And.intro (fun _ => ?_) (fun z => absurd z (by decide))
    cases fl with
    | true =>
      refine And.intro (fun z => absurd z (by decide)) (fun _ => ?_)
      refine And.intro trivial ?_
      rw [e8, iZ_neg]
      exact fin _ (by rw [if_pos (hfl.mp rfl)])
    | false =>
      refine And.intro (fun _ => ?_) (fun z => absurd rfl z)
      refine And.intro trivial ?_
      rw [e8]
      exact fin _ (by rw [if_neg (fun u => absurd (hfl.mpr u) (by decide))])
  refine smC_wp [some (vR (some (1, 1))), none] cd_34 [7] 60 OK_34 (by decide) rfl rfl (Nat.le_of_ble_eq_true rfl) ?_
  refine And.intro trivial (c_takeByte (b := 45) rfl (by decide) hT hn hP.1 hC.1 (fun m1 h1 R1 F1 => ?_) (fun h1 => ?_))
  · have h1 : p.1.1 = 3 ∧ p.1.2.2.1 = 45 := h1
    exact And.intro trivial (rest true m1 _ ⟨fun _ => h1, fun _ => rfl⟩ (by rw [if_pos h1]) (nx_ok hT hn hP.1).1 R1 F1)
  · have h1 : ¬ (p.1.1 = 3 ∧ p.1.2.2.1 = 45) := h1
    exact And.intro trivial (rest false m _ ⟨fun u => (by cases u), fun u => absurd u h1⟩ (by rw [if_neg h1]) hP.1 hC.1 (Fr.rf _ _))
end CLINE
