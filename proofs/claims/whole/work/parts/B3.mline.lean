/-! THE MODEL's reader: a line -/
/-- the last of the song is a note -/
def bhP (p : PS) : Bool := decide (0 < p.2.2.2.1 ∧ p.2.2.2.2.1 (p.2.2.2.1 - 1) 0 = 1)
theorem bhP_iff (p : PS) : bhP p = true ↔ (0 < p.2.2.2.1 ∧ p.2.2.2.2.1 (p.2.2.2.1 - 1) 0 = 1) := by unfold bhP; simp
section MLINE
variable {m : Mem} {K : Option SV → Mem → Prop} {tp : Nat → Int} {n ls : Nat} {p p' : PS}
theorem pRest_bh (h : pRest tp n ls p = .inr p') : bhP p' = false := by
  unfold pRest at h
  simp only at h
  split at h
  · cases h
  · split at h
    · cases h
    · cases h
      unfold bhP addN
      simp only [Nat.add_sub_cancel, upq_s]
      exact decide_eq_false (fun z => absurd (show (0 : Int) = 1 from z.2) (by decide))
theorem pNote_bh (h : pNote tp n ls p = .inr p') : bhP p' = true := by
  rw [pNote_2] at h
  split at h
  · cases h
  · unfold pN2 at h
    split at h
    · cases h
    · split at h
      · cases h
      · split at h
        · cases h
        · split at h
          · cases h
          · cases h
            unfold bhP addN
            simp only [Nat.add_sub_cancel, upq_s]
            exact decide_eq_true ⟨by omega, rfl⟩
theorem pTie_bh (h : pTie tp n ls p = .inr p') : bhP p' = true := by
  unfold pTie at h
  simp only at h
  split at h
  · cases h
  · split at h
    · cases h
    · rename_i hc
      cases h
      have hc : 0 < (openB p).2.2.2.1 ∧ (openB p).2.2.2.2.1 ((openB p).2.2.2.1 - 1) 0 = 1 := Classical.byContradiction (fun z => hc (Or.inl z))
      rw [bhP_iff]
      refine ⟨hc.1, ?_⟩
      show (upq (openB p).2.2.2.2.1 ((openB p).2.2.2.1 - 1) (tieF ((openB p).2.2.2.2.1 ((openB p).2.2.2.1 - 1)) _) ((openB p).2.2.2.1 - 1)) 0 = 1
      rw [upq_s]
      exact hc.2
theorem MPC.tk {t' : TK} (h : MPC m p) : MPC m (t', p.2) := h
theorem M_line (hT : TPOK tp) (hn : n ≤ 800) (hP : POK tp n p p.1.2.1) (h0 : MOk m) (hR : MRS m tp n p.1) (hC : MPC m p) (e24 : gI m 23 231 24 = (if bhP p then 1 else 0))
    (hF : ∀ m' e, pLine tp n p = .inl e → MFt m' e → Fr AML m m' → K none m') (hS : ∀ m' p', pLine tp n p = .inr p' → MRS m' tp n p'.1 → MOk m' → MPC m' p' → gI m' 23 231 24 = (if bhP p' then 1 else 0) → Fr AML m m' → K none m') : smC true 138 [vR (some (23, 231))] m K := by
  have o1 := nx_ok hT hn hP.1
  have op := hP.1.2.1
  have hP1 : POK tp n (nx tp n p.1, p.2) p.1.2.1 := ⟨o1.1, hP.2⟩
  unfold pLine at hF hS
  have good : ∀ {x1 : Int32} {x2 x3 : Option SV} (mz : Mem) (p' : PS), pBodyL tp n p = .inr p' → MRS mz tp n p'.1 → MOk mz → MPC mz p' → gI mz 23 231 24 = (if bhP p' then 1 else 0) → Fr AML m mz → smE true 138 200 [some (vR (some (23, 231))), some (vI x1), x2, x3] [] mz K := by
    intro x1 x2 x3 mz p' hb Rz oz Cz ez Fz
    have hk := pBodyL_ok hT hn hP hb
    rw [hb] at hF hS
    simp only at hF hS
    refine wp_ok (by decide) OK_138 (cc := cd_138) rfl (stops := []) 20 _ _ _ _ ?_
    refine And.intro trivial (M_must (c := 59) rfl (by decide) oz hT hn hk.1.1 Rz (fun m2 w R2 o2 F2 => ?_) (fun m2 w f2 F2 => ?_))
    · have w : p'.1.1 = 3 ∧ p'.1.2.2.1 = 59 := w
      rw [if_pos w] at hS
      exact And.intro trivial (hS m2 _ rfl R2 o2 (MPC.tk (Cz.fr F2 (fun t n k z => by unfold AWr; omega) (fun k hk => by unfold AWr; omega) (fun k hk => by unfold AWr; omega))) ((F2.2 _ _ _ (by unfold AWr; omega)).trans ez) (Fz.tr (F2.mono (fun t n k z => AWr_AML z))))
    · have w : ¬ (p'.1.1 = 3 ∧ p'.1.2.2.1 = 59) := w
      rw [if_neg w] at hF
      exact And.intro trivial (hF m2 _ rfl f2 (Fz.tr (F2.mono (fun t n k z => AWr_AML z))))
  have bad : ∀ {x1 : Int32} {x2 x3 : Option SV} (mz : Mem) (e : Int × Nat), pBodyL tp n p = .inl e → MFt mz e → EOK e → Fr AML m mz → smE true 138 200 [some (vR (some (23, 231))), some (vI x1), x2, x3] [] mz K := by
    intro x1 x2 x3 mz e hb fz he Fz
    rw [hb] at hF
    refine wp_ok (by decide) OK_138 (cc := cd_138) rfl (stops := []) 20 _ _ _ _ ?_
    refine And.intro trivial (M_must1 (MBad.of fz he) ?_)
    exact And.intro trivial (hF mz e rfl fz Fz)
  clear hF hS
  refine smC_wp [some (vR (some (23, 231))), none, none, none] cd_138 [8] 60 OK_138 (by decide) rfl rfl (Nat.le_of_ble_eq_true rfl) ?_
  refine And.intro trivial ?_
  have e15 : gI m 23 231 15 = iZ p.1.2.1 := hR.2.2.1
  rw [e15]
  have FZ : Fr (fun t n k => t = 23 ∧ n = 231 ∧ k = 26) m (sI m 23 231 26 (iZ p.1.2.1)) := Fr.st ⟨rfl, rfl, rfl⟩
  have G0 : Fr AML m (sI m 23 231 26 (iZ p.1.2.1)) := FZ.mono (fun t n k z => Or.inl ⟨z.1, z.2.1, by omega⟩)
  have R0 : MRS (sI m 23 231 26 (iZ p.1.2.1)) tp n p.1 := hR.fr FZ (fun n k => by omega) (fun k hk => by omega)
  have C0 : MPC (sI m 23 231 26 (iZ p.1.2.1)) p := hC.fr FZ (fun t n k z => by omega) (fun k hk => by omega) (fun k hk => by omega)
  have a0 : MOk (sI m 23 231 26 (iZ p.1.2.1)) := (MOk.fr h0 FZ (by omega) (by omega))
  have a24 : gI (sI m 23 231 26 (iZ p.1.2.1)) 23 231 24 = (if bhP p then 1 else 0) := (FZ.2 _ _ _ (by omega)).trans e24
  have a26 : gI (sI m 23 231 26 (iZ p.1.2.1)) 23 231 26 = iZ p.1.2.1 := by rw [gI_s, if_pos ⟨rfl, rfl, rfl⟩]
  generalize sI m 23 231 26 (iZ p.1.2.1) = m0 at *
  unfold pBodyL at good bad
  simp only at good bad
  refine wp1_ok (by decide) OK_138 (cc := cd_138) rfl (stops := [34]) (f := 60) ?_
  refine And.intro trivial (M_word a0.1 C0.1.2.1 hT hn hP.1 R0 (fun w hw1 hw2 hw3 => ?_))
  refine And.intro (fun u => ?_) (fun u => ?_)
  rotate_left
  · -- no word of a line
    rw [L5, iZ_le (by constructor <;> omega) (by decide)] at u
    have x : ∀ v, v < 6 → ¬ isW tp v p.1 = true := fun v hv => hw3 v (by omega)
    rw [if_neg (x 4 (by decide)), if_neg (x 3 (by decide)), if_neg (x 5 (by decide)), if_neg (x 0 (by decide)), if_neg (x 1 (by decide)), if_neg (x 2 (by decide))] at bad
    have r15 : gI m0 23 231 15 = iZ p.1.2.1 := R0.2.2.1
    refine And.intro trivial (M_fails (a := 1) (p := p.1.2.1) rfl r15 a0 (fun m1 f1 F1 => ?_))
    refine And.intro trivial ?_
    refine wp_ok (by decide) OK_138 (cc := cd_138) rfl (stops := [200]) 60 _ _ _ _ ?_
    refine And.intro (fun _ => ?_) (fun z => ?_)
    rotate_left
    · rw [L0, iZ_eq (by constructor <;> omega) (by decide)] at z; omega
    refine And.intro (fun _ => ?_) (fun z => ?_)
    rotate_left
    · rw [L1, iZ_eq (by constructor <;> omega) (by decide)] at z; omega
    refine And.intro (fun _ => ?_) (fun z => ?_)
    rotate_left
    · rw [L2, iZ_eq (by constructor <;> omega) (by decide)] at z; omega
    refine And.intro (fun _ => ?_) (fun z => ?_)
    rotate_left
    · rw [L3, iZ_eq (by constructor <;> omega) (by decide)] at z; omega
    refine And.intro (fun _ => ?_) (fun z => ?_)
    rotate_left
    · rw [L4, iZ_eq (by constructor <;> omega) (by decide)] at z; omega
    refine And.intro (fun _ => ?_) (fun z => ?_)
    rotate_left
    · rw [L5, iZ_eq (by constructor <;> omega) (by decide)] at z; omega
    exact And.intro trivial (bad m1 _ rfl f1 (ek1 _) (G0.tr (F1.mono (fun t n k z => Or.inl ⟨z.1, z.2.1, by omega⟩))))
  rw [L5, iZ_le (by constructor <;> omega) (by decide)] at u
  have hw : isW tp w p.1 = true := hw2 (by omega)
  have hl := isW_len hw (by omega) hP.1
  have x : ∀ v, v < 6 → v ≠ w → ¬ isW tp v p.1 = true := fun v hv hne z => hne (isW_one (by omega) (by omega) z hw)
  refine And.intro trivial (M_nx hT hn hP.1 R0 (fun m1 R1 F1 => ?_))
  have C1 : MPC m1 (nx tp n p.1, p.2) := MPC.tk (C0.fr F1 (fun t n k z => by unfold AU; omega) (fun k hk => by unfold AU; omega) (fun k hk => by unfold AU; omega))
  have b0 : MOk m1 := (MOk.fr a0 F1 (by unfold AU; omega) (by unfold AU; omega))
  have b24 : gI m1 23 231 24 = (if bhP p then 1 else 0) := (F1.2 _ _ _ (by unfold AU; omega)).trans a24
  have b26 : gI m1 23 231 26 = iZ p.1.2.1 := (F1.2 _ _ _ (by unfold AU; omega)).trans a26
  have G1 : Fr AML m m1 := G0.tr (F1.mono (fun t n k z => AU_AML z))
  have hq : p.1.2.1 + 3 ≤ (nx tp n p.1).2.1 := by omega
  refine And.intro trivial ?_
  clear F1 G0 R0 C0 a0 a24 a26 FZ
  have hc : w = 0 ∨ w = 1 ∨ w = 2 ∨ w = 3 ∨ w = 4 ∨ w = 5 := by omega
  rcases hc with rfl | rfl | rfl | rfl | rfl | rfl
  · -- key
    rw [if_neg (x 4 (by decide) (by decide)), if_neg (x 3 (by decide) (by decide)), if_neg (x 5 (by decide) (by decide)), if_pos hw] at good bad
    unfold pKey at good bad
    simp only at good bad
    have key : ∀ (m2 : Mem) (ta : TK) (ng : Bool), TOK tp n ta → MRS m2 tp n ta → Fr AU m1 m2 → (ng = true ↔ ((nx tp n p.1).1 = 3 ∧ (nx tp n p.1).2.2.1 = 45)) → ta = (if (nx tp n p.1).1 = 3 ∧ (nx tp n p.1).2.2.1 = 45 then nx tp n (nx tp n p.1) else nx tp n p.1) → smE true 138 45 [some (vR (some (23, 231))), some (vI (iZ (0 : Nat))), some (vI (if ng then 1 else 0)), none] [] m2 K := by
      intro m2 ta ng hta R2 F2 hng eta
      rw [← eta] at good bad
      have c0 : MOk m2 := (MOk.fr b0 F2 (by unfold AU; omega) (by unfold AU; omega))
      refine wp_ok (by decide) OK_138 (cc := cd_138) rfl (stops := [56]) 60 _ _ _ _ ?_
      refine And.intro trivial (M_number (lo := 0) (hi := 7) rfl rfl (by decide) (by decide) c0 hT hn hta R2 (fun m3 e w h3 f3 F3 => ?_) (fun m3 v tb h3 R3 o3 F3 => ?_))
      · rw [h3] at bad
        simp only at bad
        have he := pNum_e h3
        refine And.intro trivial ?_
        have FY : Fr (fun t n k => t = 23 ∧ n = 231 ∧ k = 22) m3 (sI m3 23 231 22 w) := Fr.st ⟨rfl, rfl, rfl⟩
        have fY : MFt (sI m3 23 231 22 w) e := ⟨(FY.2 _ _ _ (by omega)).trans f3.1, (FY.2 _ _ _ (by omega)).trans f3.2⟩
        have GY : Fr AML m (sI m3 23 231 22 w) := ((G1.tr (F2.mono (fun t n k z => AU_AML z))).tr (F3.mono (fun t n k z => AWr_AML z))).tr (FY.mono (fun t n k z => Or.inl ⟨z.1, z.2.1, by omega⟩))
        generalize sI m3 23 231 22 w = m4 at *
        refine wp1_ok (by decide) OK_138 (cc := cd_138) rfl (stops := [200]) (f := 60) ?_
        refine And.intro (fun _ => And.intro trivial (bad m4 e rfl fY he GY)) (fun _ => And.intro trivial ?_)
        have FX : Fr (fun t n k => t = 23 ∧ n = 231 ∧ k = 22) m4 (sI m4 23 231 22 (-(gI m4 23 231 22))) := Fr.st ⟨rfl, rfl, rfl⟩
        exact bad _ e rfl ⟨(FX.2 _ _ _ (by omega)).trans fY.1, (FX.2 _ _ _ (by omega)).trans fY.2⟩ he (GY.tr (FX.mono (fun t n k z => Or.inl ⟨z.1, z.2.1, by omega⟩)))
      have a3 := pNum_ok hT hn hta h3
      rw [h3] at good
      simp only at good
      refine And.intro trivial ?_
      have C3 : MPC m3 (nx tp n p.1, p.2) := (C1.fr F2 (fun t n k z => by unfold AU; omega) (fun k hk => by unfold AU; omega) (fun k hk => by unfold AU; omega)).fr F3 (fun t n k z => by unfold AWr; omega) (fun k hk => by unfold AWr; omega) (fun k hk => by unfold AWr; omega)
      have c24 : gI m3 23 231 24 = (if bhP p then 1 else 0) := (F3.2 _ _ _ (by unfold AWr; omega)).trans ((F2.2 _ _ _ (by unfold AU; omega)).trans b24)
      have G3 : Fr AML m m3 := (G1.tr (F2.mono (fun t n k z => AU_AML z))).tr (F3.mono (fun t n k z => AWr_AML z))
      have setk : ∀ (m5 : Mem) (k' : Int), Fr (fun t n k => t = 23 ∧ n = 231 ∧ k = 22) m3 m5 → gI m5 23 231 22 = iZ k' → MPC m5 (tb, (k', p.2.1.2), p.2.2) := by
        intro m5 k' F5 e5
        obtain ⟨hB, ⟨c23, c21, c20, c19⟩, hto, ⟨d0, d1⟩, dr, db⟩ := C3
        refine ⟨⟨hB.1.fr F5 (fun t n k z => by omega), fun k hk => (F5.2 _ _ _ (by omega)).trans (hB.2.1 k hk), e5⟩, ⟨(F5.2 _ _ _ (by omega)).trans c23, (F5.2 _ _ _ (by omega)).trans c21, (F5.2 _ _ _ (by omega)).trans c20, (F5.2 _ _ _ (by omega)).trans c19⟩, fun z s hs => (F5.2 _ _ _ (by omega)).trans (hto z s hs), ⟨⟨(F5.2 _ _ _ (by omega)).trans d0, (F5.2 _ _ _ (by omega)).trans d1⟩, fun i w hi hw => (F5.2 _ _ _ (by omega)).trans (dr i w hi hw), fun k hk => (F5.2 _ _ _ (by omega)).trans (db k hk)⟩⟩
      have FY : Fr (fun t n k => t = 23 ∧ n = 231 ∧ k = 22) m3 (sI m3 23 231 22 (iZ v)) := Fr.st ⟨rfl, rfl, rfl⟩
      have eY : gI (sI m3 23 231 22 (iZ v)) 23 231 22 = iZ v := by rw [gI_s, if_pos ⟨rfl, rfl, rfl⟩]
      generalize sI m3 23 231 22 (iZ v) = m4 at *
      refine wp1_ok (by decide) OK_138 (cc := cd_138) rfl (stops := [200]) (f := 60) ?_
      refine And.intro (fun z => And.intro trivial ?_) (fun z => And.intro trivial ?_)
      · have hz : ¬ ((nx tp n p.1).1 = 3 ∧ (nx tp n p.1).2.2.1 = 45) := by
          intro y
          rw [hng.mpr y] at z
          exact absurd z (by decide)
        rw [if_neg hz] at good
        exact good m4 _ rfl (R3.fr FY (fun n k => by omega) (fun k hk => by omega)) ((MOk.fr o3 FY (by omega) (by omega))) (setk m4 v FY eY) ((FY.2 _ _ _ (by omega)).trans c24) (G3.tr (FY.mono (fun t n k z => Or.inl ⟨z.1, z.2.1, by omega⟩)))
      · have hz : (nx tp n p.1).1 = 3 ∧ (nx tp n p.1).2.2.1 = 45 := by
          cases ng with
          | true => exact hng.mp rfl
          | false => exact absurd rfl z
        rw [if_pos hz] at good
        rw [eY, iZ_neg]
        have FX := FY.tr (Fr.st (m := m4) (v := iZ (-v)) (A := fun t n k => t = 23 ∧ n = 231 ∧ k = 22) (t := 23) (n := 231) (k := 22) ⟨rfl, rfl, rfl⟩)
        exact good _ _ rfl (R3.fr FX (fun n k => by omega) (fun k hk => by omega)) ((MOk.fr o3 FX (by omega) (by omega))) (setk _ (-v) FX (by rw [gI_s, if_pos ⟨rfl, rfl, rfl⟩])) ((FX.2 _ _ _ (by omega)).trans c24) (G3.tr (FX.mono (fun t n k z => Or.inl ⟨z.1, z.2.1, by omega⟩)))
    refine wp1_ok (by decide) OK_138 (cc := cd_138) rfl (stops := [45]) (f := 60) ?_
    refine And.intro (fun z => absurd rfl z) (fun _ => ?_)
    refine And.intro trivial (M_passesSign (c := 45) rfl (by decide) b0 hT hn o1.1 R1 (fun m2 y R2 F2 => ?_) (fun y => ?_))
    · have y : (nx tp n p.1).1 = 3 ∧ (nx tp n p.1).2.2.1 = 45 := y
      exact And.intro trivial (key m2 _ true (nx_ok hT hn o1.1).1 R2 F2 ⟨fun _ => y, fun _ => rfl⟩ (by rw [if_pos y]))
    · have y : ¬ ((nx tp n p.1).1 = 3 ∧ (nx tp n p.1).2.2.1 = 45) := y
      exact And.intro trivial (key m1 _ false o1.1 R1 (Fr.rf _ _) ⟨fun z => absurd z (by decide), fun z => absurd z y⟩ (by rw [if_neg y]))
  · -- meter
    rw [if_neg (x 4 (by decide) (by decide)), if_neg (x 3 (by decide) (by decide)), if_neg (x 5 (by decide) (by decide)), if_neg (x 0 (by decide) (by decide)), if_pos hw] at good bad
    unfold pMeter at good bad
    simp only at good bad
    have bad98 : ∀ {x2 x3 : Int32} (mz : Mem) (e : Int × Nat), (match pFrac tp n 16 16 (nx tp n p.1) with
        | .inl e => .inl e
        | .inr (l, t') => if ¬ p.2.2.2.2.2.2.2 = p.2.1.2.2.2 then .inl (3, p.1.2.1) else .inr (t', (p.2.1.1, p.2.1.2.1, l, p.2.1.2.2.2), p.2.2) : RE PS) = .inl e → MFt mz e → EOK e → Fr AML m mz → smE true 138 98 [some (vR (some (23, 231))), some (vI (iZ (1 : Nat))), some (vI x2), some (vI x3)] [] mz K := by
      intro x2 x3 mz e hb fz he Fz
      have bd := MBad.of fz he
      refine wp_ok (by decide) OK_138 (cc := cd_138) rfl (stops := [200]) 60 _ _ _ _ ?_
      refine And.intro (fun _ => ?_) (fun z => absurd z bd.ne)
      refine And.intro (fun _ => ?_) (fun z => absurd z bd.ne)
      exact And.intro trivial (bad mz e hb fz he Fz)
    unfold pFrac at good bad bad98
    refine wp1_ok (by decide) OK_138 (cc := cd_138) rfl (stops := [98]) (f := 60) ?_
    refine And.intro (fun _ => ?_) (fun z => absurd z (by decide))
    refine And.intro (fun z => absurd rfl z) (fun _ => ?_)
    refine And.intro trivial (M_number (lo := 1) (hi := 16) rfl rfl (by decide) (by decide) b0 hT hn o1.1 R1 (fun m2 e v h2 f2 F2 => ?_) (fun m2 u ta h2 R2 o2 F2 => ?_))
    · have he := pNum_e h2
      have bd := MBad.of f2 he
      rw [h2] at bad98
      refine And.intro trivial (M_must1 bd ?_)
      refine And.intro trivial (M_power1 bd (fun y => ?_))
      exact And.intro trivial (bad98 m2 e rfl f2 he (G1.tr (F2.mono (fun t n k z => AWr_AML z))))
    have a1 := pNum_ok hT hn o1.1 h2
    rw [h2] at good bad bad98
    simp only at good bad bad98
    have G2 : Fr AML m m2 := G1.tr (F2.mono (fun t n k z => AWr_AML z))
    refine And.intro trivial (M_must (c := 47) rfl (by decide) o2 hT hn a1.2.1 R2 (fun m3 y R3 o3 F3 => ?_) (fun m3 y f3 F3 => ?_))
    rotate_left
    · have y : ¬ (ta.1 = 3 ∧ ta.2.2.1 = 47) := y
      rw [if_pos y] at bad98
      refine And.intro trivial (M_power1 (MBad.of f3 (ek1 _)) (fun y => ?_))
      exact And.intro trivial (bad98 m3 _ rfl f3 (ek1 _) (G2.tr (F3.mono (fun t n k z => AWr_AML z))))
    have y : ta.1 = 3 ∧ ta.2.2.1 = 47 := y
    rw [if_neg (fun q => q y)] at good bad bad98
    have a2 := nx_ok hT hn a1.2.1
    have G3 : Fr AML m m3 := G2.tr (F3.mono (fun t n k z => AWr_AML z))
    refine And.intro trivial (M_power (ml := 16) rfl (by decide) o3 hT hn a2.1 R3 (fun m4 v g f4 F4 => ?_) (fun m4 e v g h4 f4 F4 => ?_) (fun m4 v tb g h4 R4 o4 F4 => ?_))
    · rw [if_pos g] at bad98
      exact And.intro trivial (bad98 m4 _ rfl f4 (ek2 _) (G3.tr (F4.mono (fun t n k z => AWr_AML z))))
    · rw [if_neg g, h4] at bad98
      exact And.intro trivial (bad98 m4 e rfl f4 (pNum_e h4) (G3.tr (F4.mono (fun t n k z => AWr_AML z))))
    rw [if_neg g, h4] at good bad
    simp only at good bad
    clear bad98
    have a3 := pNum_ok hT hn a2.1 h4
    have hp : pw2 v = true := by
      rw [a3.2.2.2.2]
      cases hq : pw2 (nx tp n ta).2.2.1 with
      | true => rfl
      | false => exact absurd ⟨a3.2.2.2.1, by rw [hq]; simp⟩ g
    have fr := frac_rng (u := u) (v := v) (by omega) (by omega) hp
    have C4 : MPC m4 (nx tp n p.1, p.2) := ((C1.fr F2 (fun t n k z => by unfold AWr; omega) (fun k hk => by unfold AWr; omega) (fun k hk => by unfold AWr; omega)).fr F3 (fun t n k z => by unfold AWr; omega) (fun k hk => by unfold AWr; omega) (fun k hk => by unfold AWr; omega)).fr F4 (fun t n k z => by unfold AWr; omega) (fun k hk => by unfold AWr; omega) (fun k hk => by unfold AWr; omega)
    have c24 : gI m4 23 231 24 = (if bhP p then 1 else 0) := (F4.2 _ _ _ (by unfold AWr; omega)).trans ((F3.2 _ _ _ (by unfold AWr; omega)).trans ((F2.2 _ _ _ (by unfold AWr; omega)).trans b24))
    have c26 : gI m4 23 231 26 = iZ p.1.2.1 := (F4.2 _ _ _ (by unfold AWr; omega)).trans ((F3.2 _ _ _ (by unfold AWr; omega)).trans ((F2.2 _ _ _ (by unfold AWr; omega)).trans b26))
    have G4 : Fr AML m m4 := G3.tr (F4.mono (fun t n k z => AWr_AML z))
    have c20 : gI m4 23 231 20 = iZ (3 * p.2.1.2.2.2) := C4.2.1.2.2.1
    have c19 : gI m4 23 231 19 = iZ (3 * p.2.2.2.2.2.2.2) := C4.2.1.2.2.2
    have sk := hP.2.2.2.2.2.2.1
    have sb := hP.2.2.2.2.2.2.2.1
    refine And.intro trivial ?_
    refine wp1_ok (by decide) OK_138 (cc := cd_138) rfl (stops := [125]) (f := 60) ?_
    refine And.intro (fun z => absurd o4.1 z) (fun _ => ?_)
    refine And.intro (fun z => ?_) (fun z => ?_)
    · rw [c20, c19, iZ_le (by constructor <;> omega) (by constructor <;> omega)] at z
      rw [if_neg (fun q => q (by omega))] at good
      refine And.intro trivial ?_
      refine wp1_ok (by decide) OK_138 (cc := cd_138) rfl (stops := [200]) (f := 60) ?_
      refine And.intro (fun z => absurd o4.1 z) (fun _ => ?_)
      refine And.intro (fun z => ?_) ?_
      · rw [L0, iZ_eq (by constructor <;> omega) (by decide)] at z; omega
      refine And.intro trivial ?_
      have e : 1536 / v * u = 3 * (u * 512 / v) := by
        have e1 : 1536 / v = 3 * (512 / v) := by
          have hv : v = 1 ∨ v = 2 ∨ v = 4 ∨ v = 8 ∨ v = 16 ∨ v = 32 := by
            have := pw2_32 v.toNat (by omega) (by rw [Int.toNat_of_nonneg (by omega)]; exact hp)
            omega
          rcases hv with rfl | rfl | rfl | rfl | rfl | rfl <;> decide
        rw [e1, Int.mul_assoc, fr.2.2.2.1]
      rw [L1536, iZ_div (by decide) (by constructor <;> omega) (by decide) (by omega), iZ_mul, e]
      have FY : Fr (fun t n k => t = 23 ∧ n = 231 ∧ k = 21) m4 (sI m4 23 231 21 (iZ (3 * (u * 512 / v)))) := Fr.st ⟨rfl, rfl, rfl⟩
      have eY : gI (sI m4 23 231 21 (iZ (3 * (u * 512 / v)))) 23 231 21 = iZ (3 * (u * 512 / v)) := by rw [gI_s, if_pos ⟨rfl, rfl, rfl⟩]
      generalize sI m4 23 231 21 (iZ (3 * (u * 512 / v))) = m5 at *
      refine good m5 _ rfl (R4.fr FY (fun n k => by omega) (fun k hk => by omega)) ((MOk.fr o4 FY (by omega) (by omega))) ?_ ((FY.2 _ _ _ (by omega)).trans c24) (G4.tr (FY.mono (fun t n k z => Or.inl ⟨z.1, z.2.1, by omega⟩)))
      obtain ⟨hB, ⟨c23, _, _, _⟩, hto, ⟨d0, d1⟩, dr, db⟩ := C4
      exact ⟨hB.fr FY (fun t n k z => by omega) (by omega), ⟨(FY.2 _ _ _ (by omega)).trans c23, eY, (FY.2 _ _ _ (by omega)).trans c20, (FY.2 _ _ _ (by omega)).trans c19⟩, fun z s hs => (FY.2 _ _ _ (by omega)).trans (hto z s hs), ⟨⟨(FY.2 _ _ _ (by omega)).trans d0, (FY.2 _ _ _ (by omega)).trans d1⟩, fun i w hi hw => (FY.2 _ _ _ (by omega)).trans (dr i w hi hw), fun k hk => (FY.2 _ _ _ (by omega)).trans (db k hk)⟩⟩
    · rw [c20, c19, iZ_le (by constructor <;> omega) (by constructor <;> omega)] at z
      rw [if_pos (fun q => z (by omega))] at bad
      refine And.intro trivial (M_fails (a := 3) (p := p.1.2.1) rfl c26 o4 (fun m5 f5 F5 => ?_))
      refine And.intro trivial ?_
      refine wp1_ok (by decide) OK_138 (cc := cd_138) rfl (stops := [200]) (f := 60) ?_
      refine And.intro (fun _ => ?_) (fun z => absurd z (bad_ne f5 (ek3 _)))
      exact And.intro trivial (bad m5 _ rfl f5 (ek3 _) (G4.tr (F5.mono (fun t n k z => Or.inl ⟨z.1, z.2.1, by omega⟩))))
  · -- speed
    rw [if_neg (x 4 (by decide) (by decide)), if_neg (x 3 (by decide) (by decide)), if_neg (x 5 (by decide) (by decide)), if_neg (x 0 (by decide) (by decide)), if_neg (x 1 (by decide) (by decide)), if_pos hw] at good bad
    unfold pSpeed at good bad
    simp only at good bad
    refine wp1_ok (by decide) OK_138 (cc := cd_138) rfl (stops := [200]) (f := 60) ?_
    refine And.intro (fun _ => ?_) (fun z => absurd z (by decide))
    refine And.intro (fun _ => ?_) (fun z => absurd z (by decide))
    refine And.intro (fun z => absurd rfl z) (fun _ => ?_)
    refine And.intro trivial (M_number (lo := 20) (hi := 400) rfl rfl (by decide) (by decide) b0 hT hn o1.1 R1 (fun m3 e v h3 f3 F3 => ?_) (fun m3 v tb h3 R3 o3 F3 => ?_))
    · rw [h3] at bad
      simp only at bad
      refine And.intro trivial ?_
      have FY : Fr (fun t n k => t = 23 ∧ n = 231 ∧ k = 23) m3 (sI m3 23 231 23 v) := Fr.st ⟨rfl, rfl, rfl⟩
      exact bad _ e rfl ⟨(FY.2 _ _ _ (by omega)).trans f3.1, (FY.2 _ _ _ (by omega)).trans f3.2⟩ (pNum_e h3) ((G1.tr (F3.mono (fun t n k z => AWr_AML z))).tr (FY.mono (fun t n k z => Or.inl ⟨z.1, z.2.1, by omega⟩)))
    rw [h3] at good
    simp only at good
    have C3 : MPC m3 (nx tp n p.1, p.2) := C1.fr F3 (fun t n k z => by unfold AWr; omega) (fun k hk => by unfold AWr; omega) (fun k hk => by unfold AWr; omega)
    have c24 : gI m3 23 231 24 = (if bhP p then 1 else 0) := (F3.2 _ _ _ (by unfold AWr; omega)).trans b24
    refine And.intro trivial ?_
    have FY : Fr (fun t n k => t = 23 ∧ n = 231 ∧ k = 23) m3 (sI m3 23 231 23 (iZ v)) := Fr.st ⟨rfl, rfl, rfl⟩
    have eY : gI (sI m3 23 231 23 (iZ v)) 23 231 23 = iZ v := by rw [gI_s, if_pos ⟨rfl, rfl, rfl⟩]
    generalize sI m3 23 231 23 (iZ v) = m4 at *
    refine good m4 _ rfl (R3.fr FY (fun n k => by omega) (fun k hk => by omega)) ((MOk.fr o3 FY (by omega) (by omega))) ?_ ((FY.2 _ _ _ (by omega)).trans c24) ((G1.tr (F3.mono (fun t n k z => AWr_AML z))).tr (FY.mono (fun t n k z => Or.inl ⟨z.1, z.2.1, by omega⟩)))
    obtain ⟨hB, ⟨c23, c21, c20, c19⟩, hto, ⟨d0, d1⟩, dr, db⟩ := C3
    exact ⟨hB.fr FY (fun t n k z => by omega) (by omega), ⟨eY, (FY.2 _ _ _ (by omega)).trans c21, (FY.2 _ _ _ (by omega)).trans c20, (FY.2 _ _ _ (by omega)).trans c19⟩, fun z s hs => (FY.2 _ _ _ (by omega)).trans (hto z s hs), ⟨⟨(FY.2 _ _ _ (by omega)).trans d0, (FY.2 _ _ _ (by omega)).trans d1⟩, fun i w hi hw => (FY.2 _ _ _ (by omega)).trans (dr i w hi hw), fun k hk => (FY.2 _ _ _ (by omega)).trans (db k hk)⟩⟩
  · -- rest
    rw [if_neg (x 4 (by decide) (by decide)), if_pos hw] at good bad
    refine wp1_ok (by decide) OK_138 (cc := cd_138) rfl (stops := [200]) (f := 60) ?_
    refine And.intro (fun _ => ?_) (fun z => absurd z (by decide))
    refine And.intro (fun _ => ?_) (fun z => absurd z (by decide))
    refine And.intro (fun _ => ?_) (fun z => absurd z (by decide))
    refine And.intro (fun z => absurd rfl z) (fun _ => ?_)
    refine And.intro trivial (M_restLine (q := p.1.2.1) (ls := p.1.2.1) hT hn hq hP1 b0 R1 C1 b26 (fun mb e he hf Fb => ?_) (fun mb pb he Rb ob Cb eb Fb => ?_))
    · exact And.intro trivial (bad mb e he hf (pRest_e he) (G1.tr Fb))
    · exact And.intro trivial (good mb pb he Rb ob Cb (by rw [pRest_bh he]; exact eb) (G1.tr Fb))
  · -- note
    rw [if_pos hw] at good bad
    refine wp1_ok (by decide) OK_138 (cc := cd_138) rfl (stops := [200]) (f := 60) ?_
    refine And.intro (fun _ => ?_) (fun z => absurd z (by decide))
    refine And.intro (fun _ => ?_) (fun z => absurd z (by decide))
    refine And.intro (fun _ => ?_) (fun z => absurd z (by decide))
    refine And.intro (fun _ => ?_) (fun z => absurd z (by decide))
    refine And.intro (fun z => absurd rfl z) (fun _ => ?_)
    refine And.intro trivial (M_noteLine (q := p.1.2.1) (ls := p.1.2.1) hT hn hq hP1 b0 R1 C1 b26 (fun mb e he hf Fb => ?_) (fun mb pb he Rb ob Cb eb Fb => ?_))
    · exact And.intro trivial (bad mb e he hf (pNote_e he) (G1.tr Fb))
    · exact And.intro trivial (good mb pb he Rb ob Cb (by rw [pNote_bh he]; exact eb) (G1.tr Fb))
  · -- tie
    rw [if_neg (x 4 (by decide) (by decide)), if_neg (x 3 (by decide) (by decide)), if_pos hw] at good bad
    refine wp1_ok (by decide) OK_138 (cc := cd_138) rfl (stops := [200]) (f := 60) ?_
    refine And.intro (fun _ => ?_) (fun z => absurd z (by decide))
    refine And.intro (fun _ => ?_) (fun z => absurd z (by decide))
    refine And.intro (fun _ => ?_) (fun z => absurd z (by decide))
    refine And.intro (fun _ => ?_) (fun z => absurd z (by decide))
    refine And.intro (fun _ => ?_) (fun z => absurd z (by decide))
    refine And.intro (fun z => absurd rfl z) (fun _ => ?_)
    refine And.intro trivial (M_tieLine (q := p.1.2.1) (ls := p.1.2.1) (bh := bhP p) hT hn hq hP1 b0 R1 C1 b26 b24 (bhP_iff p) (fun mb e he hf Fb => ?_) (fun mb pb he Rb ob Cb eb Fb => ?_))
    · exact And.intro trivial (bad mb e he hf (pTie_e he) (G1.tr Fb))
    · exact And.intro trivial (good mb pb he Rb ob Cb (by rw [pTie_bh he]; exact eb) (G1.tr Fb))
end MLINE
