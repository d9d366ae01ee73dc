/-! THE CLASS's reader: readNote -/
section CNOTE
variable {m : Mem} {K : Option SV → Mem → Prop} {tp : Nat → Int} {n sn nn q ls : Nat} {p : PS}
def AXN (nn : Nat) : Nat → Nat → Nat → Prop := fun t n k => (t = 1 ∧ n = 1 ∧ 3 ≤ k ∧ k ≠ 7 ∧ (k < 10 ∨ 13 < k)) ∨ (t = 3 ∧ n = 3) ∨ (t = 8 ∧ n = nn) ∨ (t = 9 ∧ n = nn + 1)
theorem AR_AXN {t n k : Nat} (h : AR t n k) : AXN nn t n k := Or.inl ⟨h.1, h.2.1, by have := h.2.2; omega⟩
theorem AP_AXN {t n k : Nat} (h : AP t n k) : AXN nn t n k := by
  rcases h with h | h
  · exact AR_AXN h
  · exact Or.inr (Or.inl h)
theorem AG_AXN {t n k : Nat} (h : AG nn t n k) : AXN nn t n k := by
  rcases h with h | h | h
  · exact AP_AXN h
  · exact Or.inr (Or.inr (Or.inl ⟨h.1, h.2.1⟩))
  · exact Or.inr (Or.inr (Or.inr h))
theorem AY_AXN {t n k : Nat} (h : AY nn t n k) : AXN nn t n k := by
  rcases h with h | h | h
  · exact AR_AXN h
  · exact Or.inl ⟨h.1, h.2.1, by omega⟩
  · exact Or.inr (Or.inr (Or.inl ⟨h.1, h.2.1⟩))
theorem AXN_AX {t n k : Nat} (h : AXN nn t n k) : AX sn nn t n k := by
  rcases h with h | h | h | h
  · exact Or.inl ⟨h.1, h.2.1, h.2.2.1, h.2.2.2.2⟩
  · exact Or.inr (Or.inl h)
  · exact Or.inr (Or.inr (Or.inl h))
  · exact Or.inr (Or.inr (Or.inr (Or.inl h)))
/-- what the line's own work leaves -/
def BSE (m : Mem) (sn ls : Nat) (o : PS) : Prop := CKk m o.2.1 ∧ SRep m sn o.2.2.2 ∧ gP m 1 1 9 = some (10, sn) ∧ gI m 1 1 7 = iZ ls
theorem BSE.fr {m' : Mem} {o : PS} {A : Nat → Nat → Nat → Prop} (h : BSE m sn ls o) (F : Fr A m m') (hA : ∀ t n k, A t n k → AXN (sn + 1 + 2 + 2 * o.2.2.2.1) t n k) : BSE m' sn ls o := by
  have F := F.mono hA
  obtain ⟨b1, b2, b3, b4⟩ := h
  refine ⟨b1.fr F (fun j hj => by unfold AXN; omega), b2.frd F (fun k => by unfold AXN; omega) (fun k => by unfold AXN; omega) (fun i k hi => by unfold AXN; omega) (fun i k hi => by unfold AXN; omega), (Fr_gP F _ _ _).trans b3, (F.2 _ _ _ (by unfold AXN; omega)).trans b4⟩
theorem c_readNote (hT : TPOK tp) (hn : n ≤ 800) (hq : q + 3 ≤ p.1.2.1) (hP : POK tp n p q) (hC : CS m tp n sn p) (h7 : gI m 1 1 7 = iZ ls)
    (hF : ∀ m' e, pNote tp n ls p = .inl e → FTd m' e → Fr (AD sn) m m' → K (some (vI 0)) m') (hS : ∀ m' p', pNote tp n ls p = .inr p' → CS m' tp n sn p' → Fr (AD sn) m m' → K (some (vI 1)) m') : smC true 15 [vR (some (1, 1))] m K := by
  have hpl := hP.1.2.1
  obtain ⟨ho, hb, hb2⟩ := openB_ok hP (by omega)
  have h5 := hP.2.2.2.2.2.2.2.1
  unfold pNote at hF hS
  simp only at hF hS
  refine smC_wp [some (vR (some (1, 1))), none, none, none] cd_15 [52] 60 OK_15 (by decide) rfl rfl (Nat.le_of_ble_eq_true rfl) ?_
  refine And.intro trivial (c_openBar ⟨hP.1, hP.2.1, hP.2.2.1, hP.2.2.2.mono (by omega)⟩ (by omega) hC (fun m1 C1 F1 e7 => ?_))
  generalize openB p = o at *
  have s1 := ho.2.2.2.1
  have s4 := ho.2.2.2.2.2.2.1
  have rk := ho.2.1.1
  have S1 : SRep m1 sn o.2.2.2 := C1.2.2.2.1
  have B1 : BSE m1 sn ls o := ⟨C1.2.1, S1, C1.2.2.2.2, e7.trans h7⟩
  refine Exists.intro _ (And.intro B1.2.2.1 ?_)
  refine Exists.intro _ (And.intro B1.2.2.1 ?_)
  refine And.intro (fun _ => ?_) (fun y => ?_)
  rotate_left
  · have y : ¬ gI m1 10 sn 1 < nI 49 := y
    rw [S1.1.1, iZ_nI, iZ_lt (by constructor <;> omega) (by decide)] at y; omega
  refine Exists.intro _ (And.intro B1.2.2.1 ?_)
  refine Exists.intro _ (And.intro B1.2.2.1 ?_)
  refine And.intro (by rw [S1.1.1]; exact (iZ_in (by constructor <;> omega)).mpr (by omega)) ?_
  have ec : (gI m1 10 sn 1).toNatClampNeg = o.2.2.2.1 := by rw [S1.1.1, iZ_clamp (by constructor <;> omega)]; omega
  rw [ec]
  have hnn : sn + 1 + 2 + 2 * o.2.2.2.1 = sn + 1 + 2 + 2 * o.2.2.2.1 := rfl
  generalize enn : sn + 1 + 2 + 2 * o.2.2.2.1 = c at hnn ⊢
  have bse : ∀ {ma mb : Mem} {A : Nat → Nat → Nat → Prop}, BSE ma sn ls o → Fr A ma mb → (∀ t n k, A t n k → AXN c t n k) → BSE mb sn ls o := by
    intro ma mb A hB hFr hA
    refine hB.fr hFr (fun t n k z => ?_)
    rw [enn]; exact hA t n k z
  have toAD : ∀ {ma : Mem}, Fr (AXN c) m1 ma → Fr (AD sn) m ma := by
    intro ma hFr
    refine F1.tr (hFr.mono (fun t n k z => ?_))
    rw [← enn] at z
    exact AX_AD (by omega) (AXN_AX (sn := sn) z)
  refine And.intro trivial (c_clearN (nn := c) (fun m2 c0 c6 c7 c9 c10 c11 c12 F2 => ?_))
  have G2 : Fr (AXN c) m1 m2 := F2.mono (fun t n k z => Or.inr (Or.inr (Or.inl z)))
  have B2 := bse B1 F2 (fun t n k z => Or.inr (Or.inr (Or.inl z)))
  have R2 : RS m2 tp n o.1 := C1.1.fr F2 (fun n k => by omega) (fun k hk => by omega)
  have T2 : CTo m2 o.2.2.1 := fun k hk => (F2.2 _ _ _ (by omega)).trans (C1.2.2.1 hb k hk)
  refine And.intro trivial ?_
  refine wp1_ok (by decide) OK_15 (cc := cd_15) rfl (stops := [69]) (f := 60) ?_
  refine And.intro trivial (c_readPitch rk B2.1.1 ho.2.2.1 T2 hT hn ho.1 R2 (fun m3 e h1 f3 F3 => ?_) (fun m3 x told1 ta h1 R3 T3 e8 F3 => ?_))
  · refine And.intro (fun z => absurd rfl z) (fun _ => ?_)
    exact And.intro (Or.inl rfl) (hF m3 e (by rw [h1]) f3 (toAD (G2.tr (F3.mono (fun t n k z => AP_AXN z)))))
  have o1 := pPitch_ok hT hn ho.1 ho.2.2.1 h1
  have og := pPitch_g hT hn ho.1 ho.2.2.1 h1
  rw [h1] at hF hS
  simp only at hF hS
  have B3 := bse B2 F3 (fun t n k z => AP_AXN z)
  have G3 : Fr (AXN c) m1 m3 := G2.tr (F3.mono (fun t n k z => AP_AXN z))
  have r8 : ∀ k, gI m3 8 c k = gI m2 8 c k := fun k => F3.2 _ _ _ (by unfold AP AR; omega)
  refine And.intro (fun _ => ?_) (fun z => absurd z (by decide))
  refine And.intro trivial ?_
  rw [e8]
  have FZ : Fr (fun t n k => t = 8 ∧ n = c ∧ k = 0) m3 (sI m3 8 c 0 (iZ (pit x.2.2 (7 * x.2.1 + x.1)))) := Fr.st ⟨rfl, rfl, rfl⟩
  have z0 : gI (sI m3 8 c 0 (iZ (pit x.2.2 (7 * x.2.1 + x.1)))) 8 c 0 = iZ (pit x.2.2 (7 * x.2.1 + x.1)) := by rw [gI_s, if_pos ⟨rfl, rfl, rfl⟩]
  have B4 := bse B3 FZ (fun t n k z => Or.inr (Or.inr (Or.inl ⟨z.1, z.2.1⟩)))
  have G4 := G3.tr (FZ.mono (fun t n k z => Or.inr (Or.inr (Or.inl ⟨z.1, z.2.1⟩))))
  have R4 : RS (sI m3 8 c 0 (iZ (pit x.2.2 (7 * x.2.1 + x.1)))) tp n ta := R3.fr FZ (fun n k => by omega) (fun k hk => by omega)
  have T4 : CTo (sI m3 8 c 0 (iZ (pit x.2.2 (7 * x.2.1 + x.1)))) told1 := fun k hk => (FZ.2 _ _ _ (by omega)).trans (T3 k hk)
  have r84 : ∀ k, k ≠ 0 → gI (sI m3 8 c 0 (iZ (pit x.2.2 (7 * x.2.1 + x.1)))) 8 c k = gI m2 8 c k := fun k hk => (FZ.2 _ _ _ (by omega)).trans (r8 k)
  generalize sI m3 8 c 0 (iZ (pit x.2.2 (7 * x.2.1 + x.1))) = m4 at *
  have hnr : 0 ≤ x.2.2 ∧ x.2.2 < 200 := by
    have w1 := natN_lo (s := 7 * x.2.1 + x.1) (by have := okG_tn og; omega)
    have w2 := og.2.2
    omega
  refine wp1_ok (by decide) OK_15 (cc := cd_15) rfl (stops := [74]) (f := 60) ?_
  refine And.intro trivial (c_holdSigns (told := told1) (num := x.2.2) (st := 7 * x.2.1 + x.1) T4 z0 (okG_tn og) hnr (fun m5 d13 d14 d15 F5 => ?_))
  have B5 := bse B4 F5 (fun t n k z => Or.inr (Or.inr (Or.inl ⟨z.1, z.2.1⟩)))
  have G5 := G4.tr (F5.mono (fun t n k z => Or.inr (Or.inr (Or.inl ⟨z.1, z.2.1⟩))))
  have R5 : RS m5 tp n ta := R4.fr F5 (fun n k => by omega) (fun k hk => by omega)
  have T5 : CTo m5 told1 := fun k hk => (F5.2 _ _ _ (by omega)).trans (T4 k hk)
  have r85 : ∀ k, k ≠ 0 → k < 13 → gI m5 8 c k = gI m2 8 c k := fun k hk hk2 => (F5.2 _ _ _ (by omega)).trans (r84 k hk)
  have z05 : gI m5 8 c 0 = iZ (pit x.2.2 (7 * x.2.1 + x.1)) := (F5.2 _ _ _ (by omega)).trans z0
  refine And.intro trivial ?_
  refine wp1_ok (by decide) OK_15 (cc := cd_15) rfl (stops := [92]) (f := 60) ?_
  refine And.intro trivial (c_readFraction (mu := 32) (ml := 32) rfl rfl (by decide) (by decide) hT hn o1.2.2.2.1 R5 (fun m6 e h2 f6 F6 => ?_) (fun m6 l tb h2 R6 e86 F6 => ?_))
  · refine And.intro (fun z => absurd rfl z) (fun _ => ?_)
    exact And.intro (Or.inl rfl) (hF m6 e (by rw [h2]) f6 (toAD (G5.tr (F6.mono (fun t n k z => AR_AXN z)))))
  have o2 := pFrac_ok hT hn o1.2.2.2.1 (by decide) h2
  rw [h2] at hF hS
  simp only at hF hS
  have B6 := bse B5 F6 (fun t n k z => AR_AXN z)
  have G6 := G5.tr (F6.mono (fun t n k z => AR_AXN (nn := c) z))
  have T6 : CTo m6 told1 := fun k hk => (F6.2 _ _ _ (by unfold AR; omega)).trans (T5 k hk)
  have r86 : ∀ k, gI m6 8 c k = gI m5 8 c k := fun k => F6.2 _ _ _ (by unfold AR; omega)
  refine And.intro (fun _ => ?_) (fun z => absurd z (by decide))
  refine And.intro trivial ?_
  rw [e86]
  refine wp1_ok (by decide) OK_15 (cc := cd_15) rfl (stops := [110]) (f := 60) ?_
  refine And.intro trivial (c_readPrefix (nn := c) hT hn rk o2.2.1 o1.2.2.1 R6 T6 B6.1.1 ((r86 7).trans ((r85 7 (by omega) (by omega)).trans c7)) (fun m7 e h3 f7 F7 => ?_) (fun m7 pf gs told2 tc h3 R7 T7 g7 e77 F7 => ?_))
  · refine And.intro (fun _ => ?_) (fun z => absurd rfl z)
    exact And.intro (Or.inl rfl) (hF m7 e (by rw [h3]) f7 (toAD (G6.tr (F7.mono (fun t n k z => AG_AXN z)))))
  have o3 := pPre_ok hT hn o2.2.1 o1.2.2.1 h3
  rw [h3] at hF hS
  simp only at hF hS
  have B7 := bse B6 F7 (fun t n k z => AG_AXN z)
  have G7 := G6.tr (F7.mono (fun t n k z => AG_AXN z))
  have r87 : ∀ k, k ≠ 7 → gI m7 8 c k = gI m6 8 c k := fun k hk => F7.2 _ _ _ (by unfold AG AP AR; omega)
  refine And.intro (fun z => absurd z (by decide)) (fun _ => ?_)
  refine And.intro trivial (c_readBody (nn := c) hT hn o3.2.2.2.1 R7 ((r87 10 (by omega)).trans ((r86 10).trans ((r85 10 (by omega) (by omega)).trans c10))) ((r87 11 (by omega)).trans ((r86 11).trans ((r85 11 (by omega) (by omega)).trans c11))) (fun m8 e h4 f8 F8 => ?_) (fun m8 bd qq td h4 R8 Q8 e98 F8 => ?_))
  · refine And.intro (fun z => absurd rfl z) (fun _ => ?_)
    exact And.intro (Or.inl rfl) (hF m8 e (by rw [h4]) f8 (toAD (G7.tr (F8.mono (fun t n k z => AY_AXN z)))))
  have o4 := pBody_ok hT hn o3.2.2.2.1 h4
  rw [h4] at hF hS
  simp only at hF hS
  have B8 := bse B7 F8 (fun t n k z => AY_AXN z)
  have G8 := G7.tr (F8.mono (fun t n k z => AY_AXN z))
  have r88 : ∀ k, k ≠ 9 → k ≠ 10 → k ≠ 11 → gI m8 8 c k = gI m7 8 c k := fun k v1 v2 v3 => F8.2 _ _ _ (by unfold AY AR; omega)
  refine And.intro (fun _ => ?_) (fun z => absurd z (by decide))
  refine And.intro trivial ?_
  refine wp1_ok (by decide) OK_15 (cc := cd_15) rfl (stops := [115]) (f := 60) ?_
  refine And.intro trivial (c_readBehind (nn := c) hT hn o4.2.2.1 R8 ((r88 12 (by omega) (by omega) (by omega)).trans ((r87 12 (by omega)).trans ((r86 12).trans ((r85 12 (by omega) (by omega)).trans c12)))) (fun m9 R9 e912 F9 => ?_))
  have ob := pBeh_ok hT hn o4.2.2.1
  have G9 := G8.tr (F9.mono (fun t n k z => (show AXN c t n k from by
    rcases z with z | z
    · exact AR_AXN z
    · exact Or.inr (Or.inr (Or.inl ⟨z.1, z.2.1⟩)))))
  have B9 := bse B8 F9 (fun t n k z => by
    rcases z with z | z
    · exact AR_AXN z
    · exact Or.inr (Or.inr (Or.inl ⟨z.1, z.2.1⟩)))
  have r89 : ∀ k, k ≠ 12 → gI m9 8 c k = gI m8 8 c k := fun k hk => F9.2 _ _ _ (by unfold AR; omega)
  have tw9 : gI m9 1 1 14 = (if qq.2.2 then 1 else 0) := (F9.2 _ _ _ (by unfold AR; omega)).trans Q8.2.2
  have e99 : gI m9 8 c 9 = iZ bd := (r89 9 (by omega)).trans e98
  generalize pBeh tp n td = bh at *
  refine And.intro trivial ?_
  have hSR : SRep m9 sn o.2.2.2 := B9.2.1
  have last : ¬ (48 ≤ o.2.2.2.1 ∨ o.2.1.2.2.2 < o.2.2.2.2.2.2.2 + l ∨ (bh.1 = 1 ∧ ¬ (bd = 1 ∨ bd = 8)) ∨ qq.2.2 = true) → ∀ x3 : Int32, smE true 15 188 [some (vR (some (1, 1))), some (vR (some (8, c))), some (vI (iZ l)), some (vI x3)] [] m9 K := by
    intro hno x3
    rw [if_neg hno] at hS
    refine wp_ok (by decide) OK_15 (cc := cd_15) rfl (stops := []) 30 _ _ _ _ ?_
    refine And.intro trivial (c_addNote (nn := c) (l := l) rfl B9.1 hSR B9.2.2.1 (fun mA a1 a2 a3 a4 a5 b1 b4 FA => ?_))
    have FXA : Fr (AX sn c) m9 mA := FA.mono (fun t n k z => by
      rcases z with z | z
      · exact Or.inr (Or.inr (Or.inl ⟨z.1, z.2.1⟩))
      · exact Or.inr (Or.inr (Or.inr (Or.inr z))))
    have rA : ∀ k, k = 0 ∨ 6 ≤ k → gI mA 8 c k = gI m9 8 c k := fun k hk => FA.2 _ _ _ (by omega)
    refine And.intro (Or.inr rfl) (hS mA _ rfl ⟨R9.fr FA (fun n k => by omega) (fun k hk => by omega), B9.1.fr FA (fun j hj => by omega), fun _ k hk => ?_, ?_, (Fr_gP FA _ _ _).trans B9.2.2.1⟩ ?_)
    · rw [FA.2 _ _ _ (by omega), F9.2 _ _ _ (by unfold AR; omega), F8.2 _ _ _ (by unfold AY AR; omega)]; exact T7 k hk
    · rw [← enn] at FXA a1 a2 a3 a4 a5
      refine SRep_add hSR FXA b1 b4 ⟨⟨?_, a1, a2, a3, a4, a5, ?_, ?_, ?_, ?_⟩, fun _ => ⟨⟨?_, ?_, ?_, ?_, ?_⟩, fun j hj => ?_⟩⟩
      · rw [enn, rA 0 (by omega), r89 0 (by omega), r88 0 (by omega) (by omega) (by omega), r87 0 (by omega), r86 0, z05]; rfl
      · rw [enn, rA 6 (by omega), r89 6 (by omega), r88 6 (by omega) (by omega) (by omega), r87 6 (by omega), r86 6, r85 6 (by omega) (by omega), c6]; rfl
      · rw [enn, rA 7 (by omega), r89 7 (by omega), r88 7 (by omega) (by omega) (by omega), e77]; rfl
      · rw [enn, rA 9 (by omega), e99]; rfl
      · rw [enn, rA 12 (by omega), e912]; rfl
      · rw [enn, rA 10 (by omega), r89 10 (by omega), Q8.1]; rfl
      · rw [enn, rA 11 (by omega), r89 11 (by omega), Q8.2.1]; rfl
      · rw [enn, rA 13 (by omega), r89 13 (by omega), r88 13 (by omega) (by omega) (by omega), r87 13 (by omega), r86 13, d13]; rfl
      · rw [enn, rA 14 (by omega), r89 14 (by omega), r88 14 (by omega) (by omega) (by omega), r87 14 (by omega), r86 14, d14]; rfl
      · rw [enn, rA 15 (by omega), r89 15 (by omega), r88 15 (by omega) (by omega) (by omega), r87 15 (by omega), r86 15, d15]; rfl
      · have hj : j < ngc pf := hj
        have hj4 := o3.2.2.2.2.2
        rw [enn, FA.2 _ _ _ (by omega), F9.2 _ _ _ (by unfold AR; omega), F8.2 _ _ _ (by unfold AY AR; omega), g7 j hj]
        unfold nGr
        have mk := mkF_g (L := [1, x.1, x.2.1, x.2.2, o.2.2.2.2.2.2.2, l, (o.2.2.2.2.2.1 : Int) - 1, 0, o.2.1.1, o.2.1.2.1, bd, pf, bh.1, qq.1, qq.2.1, tldN told1 (7 * x.2.1 + x.1 + 1), tldN told1 (7 * x.2.1 + x.1 - 1), tldN told1 (7 * x.2.1 + x.1 - 2)]) (gs := gs) (j := j) (by omega)
        rw [mk.1, mk.2.1, mk.2.2]; rfl
    · refine (toAD G9).tr (FA.mono (fun t n k z => ?_))
      rcases z with z | z
      · exact Or.inr (Or.inr ⟨Or.inl z.1, by omega⟩)
      · exact Or.inr (Or.inr ⟨Or.inr (Or.inr (Or.inl z.1)), by omega⟩)
  have fail : (48 ≤ o.2.2.2.1 ∨ o.2.1.2.2.2 < o.2.2.2.2.2.2.2 + l ∨ (bh.1 = 1 ∧ ¬ (bd = 1 ∨ bd = 8)) ∨ qq.2.2 = true) → ∀ x3 : Int32, smE true 15 178 [some (vR (some (1, 1))), some (vR (some (8, c))), some (vI (iZ l)), some (vI x3)] [] m9 K := by
    intro hc x3
    rw [if_pos hc] at hF
    refine wp_ok (by decide) OK_15 (cc := cd_15) rfl (stops := []) 30 _ _ _ _ ?_
    refine And.intro trivial (c_fail (a := 3) (p := ls) rfl B9.2.2.2 (fun mA f1 f2 FA => ?_))
    exact And.intro (Or.inl rfl) (hF mA _ rfl ⟨f1, f2⟩ (toAD (G9.tr (FA.mono (fun t n k z => AR_AXN (AF_AR z))))))
  have chk : ∀ st : Bool, (st = true ↔ (bh.1 = 1 ∧ ¬ (bd = 1 ∨ bd = 8))) → smE true 15 138 [some (vR (some (1, 1))), some (vR (some (8, c))), some (vI (iZ l)), none] [vI (if st then 1 else 0)] m9 K := by
    intro st hst
    refine wp_ok (by decide) OK_15 (cc := cd_15) rfl (stops := [178, 188]) 60 _ _ _ _ ?_
    refine Exists.intro _ (And.intro B9.2.2.1 ?_)
    refine And.intro (fun z => ?_) (fun z => ?_)
    · rw [hSR.1.1, L48, iZ_le (by decide) (by constructor <;> omega)] at z
      exact And.intro trivial (fail (Or.inl (by omega)) _)
    rw [hSR.1.1, L48, iZ_le (by decide) (by constructor <;> omega)] at z
    refine Exists.intro _ (And.intro B9.2.2.1 ?_)
    refine And.intro (fun y => ?_) (fun y => ?_)
    · rw [hSR.1.2.2, B9.1.2.2.2, iZ_add, iZ_lt (by constructor <;> omega) (by constructor <;> omega)] at y
      exact And.intro trivial (fail (Or.inr (Or.inl (by omega))) _)
    rw [hSR.1.2.2, B9.1.2.2.2, iZ_add, iZ_lt (by constructor <;> omega) (by constructor <;> omega)] at y
    cases st with
    | true =>
      refine And.intro (fun _ => ?_) (fun w => absurd w (by decide))
      exact And.intro trivial (fail (Or.inr (Or.inr (Or.inl (hst.mp rfl)))) _)
    | false =>
      refine And.intro (fun w => absurd rfl w) (fun _ => ?_)
      have ns : ¬ (bh.1 = 1 ∧ ¬ (bd = 1 ∨ bd = 8)) := fun w => absurd (hst.mpr w) (by decide)
      cases hb2q : qq.2.2 with
      | true =>
        rw [hb2q] at tw9
        refine And.intro (fun w => absurd (tw9.symm.trans w) (by decide)) (fun _ => ?_)
        exact And.intro trivial (fail (Or.inr (Or.inr (Or.inr hb2q))) _)
      | false =>
        rw [hb2q] at tw9
        refine And.intro (fun _ => ?_) (fun w => absurd tw9 w)
        refine And.intro trivial (last ?_ _)
        rintro (w | w | w | w)
        · omega
        · omega
        · exact ns w
        · rw [hb2q] at w; cases w
  refine wp1_ok (by decide) OK_15 (cc := cd_15) rfl (stops := [138]) (f := 60) ?_
  have o41 := o4.1
  have ob1 := ob.1
  refine And.intro (fun z => ?_) (fun z => ?_)
  · rw [e912, L1, iZ_eq (by constructor <;> omega) (by decide)] at z
    exact And.intro trivial (chk false ⟨fun w => (by cases w), fun w => absurd w.1 z⟩)
  rw [e912, L1, iZ_eq (by constructor <;> omega) (by decide)] at z
  refine And.intro trivial ?_
  rw [e99]
  refine (c_takesAfterbeat (by constructor <;> omega) (fun w => ?_) (fun w => ?_))
  · refine And.intro (fun _ => ?_) (fun y => absurd y (by decide))
    exact And.intro trivial (chk false ⟨fun u => (by cases u), fun u => absurd w u.2⟩)
  · refine And.intro (fun y => absurd rfl y) (fun _ => ?_)
    exact And.intro trivial (chk true ⟨fun _ => ⟨z, w⟩, fun _ => rfl⟩)
end CNOTE
