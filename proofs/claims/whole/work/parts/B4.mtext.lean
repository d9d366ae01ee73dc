/-! THE MODEL: text -/
/-- how text begins -/
def tI (m : Mem) (v : Int32) : Mem := sI (sI (sI (sI (sI (sI (sI (sI (sI (sI (sI (sI (sI m 23 231 9 0) 23 231 10 v) 23 231 11 0) 23 231 12 0) 23 231 13 (-1)) 23 231 19 0) 23 231 20 0) 23 231 21 1536) 23 231 22 0) 23 231 23 100) 23 231 24 0) 30 238 0 0) 30 238 1 0
/-- what text may touch -/
def AMX : Nat → Nat → Nat → Prop := fun t n k => (t = 23 ∧ n = 231 ∧ (k = 0 ∨ 9 ≤ k ∧ k ≤ 30)) ∨ (t = 30 ∧ n = 238) ∨ (t = 33 ∧ n = 241) ∨ (t = 29 ∧ n = 237)
theorem AML_AMX {t n k : Nat} (z : AML t n k) : AMX t n k := by
  rcases z with z | z | z
  · exact Or.inl ⟨z.1, z.2.1, by omega⟩
  · exact Or.inr (Or.inl z)
  · exact Or.inr (Or.inr (Or.inl z))
theorem tI_fr (m : Mem) (v : Int32) : Fr (fun t n k => (t = 23 ∧ n = 231 ∧ 9 ≤ k ∧ k ≤ 24) ∨ (t = 30 ∧ n = 238)) m (tI m v) := by
  unfold tI
  exact ((((((((((((Fr.st (Or.inl (by omega))).tr (Fr.st (Or.inl (by omega)))).tr (Fr.st (Or.inl (by omega)))).tr (Fr.st (Or.inl (by omega)))).tr (Fr.st (Or.inl (by omega)))).tr (Fr.st (Or.inl (by omega)))).tr (Fr.st (Or.inl (by omega)))).tr (Fr.st (Or.inl (by omega)))).tr (Fr.st (Or.inl (by omega)))).tr (Fr.st (Or.inl (by omega)))).tr (Fr.st (Or.inl (by omega)))).tr (Fr.st (Or.inr (by omega)))).tr (Fr.st (Or.inr (by omega)))
section MTEXT
variable {m : Mem} {K : Option SV → Mem → Prop} {tp : Nat → Int} {td : Nat}
theorem M_text {N : Int} {x : Int32} (hx : x = iZ N) (rN : R32 N) (hT : TPOK tp) (htd : td ≤ 800) (hc : ∀ k, k < 800 → gI m 31 239 k = iZ (sg (tp k))) (e9 : gI m 23 231 9 = iZ td) (hB : MB m) (hW : MWd m)
    (hX : ∀ m', ¬ (0 ≤ N ∧ N ≤ td) → gI m' 23 231 0 = 0 → Fr (fun t n k => t = 23 ∧ n = 231 ∧ k = 0) m m' → K (some (vI (iZ (-3)))) m')
    (hF : ∀ m' e, (0 ≤ N ∧ N ≤ td) → pAll tp N.toNat = .inl e → EOK e → MFt m' e → gI m' 23 231 0 = 0 → gI m' 23 231 9 = iZ 0 → (∀ k, gI m' 29 237 k = gI m 29 237 k) → Fr AMX m m' → K (some (vI (iZ (-30 - e.1)))) m')
    (hS : ∀ m' p', (0 ≤ N ∧ N ≤ td) → pAll tp N.toNat = .inr p' → POK tp N.toNat p' p'.1.2.1 → MD m' p'.2.2.2 → MOk m' → gI m' 23 231 0 = 0 → gI m' 23 231 9 = iZ 0 → Fr AMX m m' → K (some (vI (iZ p'.2.2.2.1))) m') : smC true 134 [vR (some (23, 231)), vI x] m K := by
  subst hx
  refine smC_wp [some (vR (some (23, 231))), some (vI (iZ N)), none] cd_134 [5] 60 OK_134 (by decide) rfl rfl (Nat.le_of_ble_eq_true rfl) ?_
  refine And.intro trivial ?_
  have F0 : Fr (fun t n k => t = 23 ∧ n = 231 ∧ k = 0) m (sI m 23 231 0 0) := Fr.st ⟨rfl, rfl, rfl⟩
  have z0 : gI (sI m 23 231 0 0) 23 231 0 = 0 := by rw [gI_s, if_pos ⟨rfl, rfl, rfl⟩]
  generalize sI m 23 231 0 0 = m0 at *
  have a9 : gI m0 23 231 9 = iZ td := (F0.2 _ _ _ (by omega)).trans e9
  have ht64 : (gI m0 23 231 9).toInt64 = iL td := by rw [a9]; exact iZ_iL (by constructor <;> omega)
  refine wp1_ok (by decide) OK_134 (cc := cd_134) rfl (stops := [22]) (f := 60) ?_
  refine And.intro trivial (M_isIn (v := N) (lo := 0) (hi := td) (iZ_iL rN) rfl ht64 (by obtain ⟨u, v⟩ := rN; constructor <;> omega) (by decide) (by constructor <;> omega) (fun w => ?_) (fun w => ?_))
  rotate_left
  · refine And.intro (fun z => absurd rfl z) (fun _ => ?_)
    exact And.intro trivial (hX m0 w z0 F0)
  refine And.intro (fun _ => ?_) (fun z => absurd z (by decide))
  refine And.intro trivial ?_
  have eN : N = ((N.toNat : Nat) : Int) := by omega
  generalize hnn : N.toNat = n at *
  have hn : n ≤ 800 := by omega
  have fail : ∀ (mz : Mem) (e : Int × Nat) (x2 : Option SV), pAll tp n = .inl e → EOK e → MFt mz e → gI mz 23 231 0 = 0 → gI mz 23 231 9 = iZ 0 → (∀ k, gI mz 29 237 k = gI m 29 237 k) → Fr AMX m mz → smE true 134 98 [some (vR (some (23, 231))), some (vI (iZ N)), x2] [] mz K := by
    intro mz e x2 hp he fz y0 y9 y29 Fz
    have bd := MBad.of fz he
    refine wp_ok (by decide) OK_134 (cc := cd_134) rfl (stops := []) 60 _ _ _ _ ?_
    refine And.intro (fun _ => ?_) (fun z => absurd z bd.ne)
    refine And.intro (fun z => absurd z bd.ne) (fun _ => ?_)
    refine And.intro trivial ?_
    rw [fz.1, LM30, iZ_sub]
    exact hF mz e w hp he fz y0 y9 y29 Fz
  have good : ∀ (p' : PS) (mz : Mem), pAll tp n = .inr p' → POK tp n p' p'.1.2.1 → MOk mz → MPC mz p' → gI mz 23 231 0 = 0 → gI mz 23 231 9 = iZ 0 → Fr AMX m mz → smE true 134 119 [some (vR (some (23, 231))), some (vI (iZ N)), none] [] mz K := by
    intro p' mz hp hP oz Cz y0 y9 Fz
    have s1 := hP.2.2.2.1
    have h5 := hP.2.2.2.2.2.2.2.1
    have hpl := hP.1.2.1
    refine wp_ok (by decide) OK_134 (cc := cd_134) rfl (stops := [146]) 60 _ _ _ _ ?_
    refine And.intro (fun _ => ?_) (fun z => absurd oz.1 z)
    refine And.intro (by rw [L2, iZ_in (by decide)]; decide) ?_
    refine And.intro trivial ?_
    have c19 : gI mz 23 231 19 = iZ (3 * p'.2.2.2.2.2.2.2) := Cz.2.1.2.2.2
    rw [c19]
    change smE true 134 146 [some (vR (some (23, 231))), some (vI (iZ N)), some (vI 0)] [] (sI mz 30 238 2 (iZ (3 * p'.2.2.2.2.2.2.2))) K
    have FY : Fr (fun t n k => t = 30 ∧ n = 238 ∧ k = 2) mz (sI mz 30 238 2 (iZ (3 * p'.2.2.2.2.2.2.2))) := Fr.st ⟨rfl, rfl, rfl⟩
    have eY : gI (sI mz 30 238 2 (iZ (3 * p'.2.2.2.2.2.2.2))) 30 238 2 = iZ (3 * p'.2.2.2.2.2.2.2) := by rw [gI_s, if_pos ⟨rfl, rfl, rfl⟩]
    generalize sI mz 30 238 2 (iZ (3 * p'.2.2.2.2.2.2.2)) = m1 at *
    have loop : ∀ (s j : Nat) (ma : Mem), j + s = 1604 → (∀ k, k < j → gI ma 29 237 k = gI m1 30 238 k) → Fr (fun t n k => t = 29 ∧ n = 237) m1 ma → smE true 134 146 [some (vR (some (23, 231))), some (vI (iZ N)), some (vI (iZ j))] [] ma K := by
      intro s
      induction s with
      | zero =>
        intro j ma ej hj Fa
        have ej : j = 1604 := by omega
        subst ej
        refine wp1_ok (by decide) OK_134 (cc := cd_134) rfl (stops := [146]) (f := 40) ?_
        refine And.intro (fun _ => ?_) (fun z => absurd (by decide) z)
        refine And.intro (by rw [L0, iZ_in (by decide)]; decide) ?_
        refine And.intro trivial ?_
        have al : ∀ k, k < 1604 → k ≠ 2 → gI ma 29 237 k = gI mz 30 238 k := fun k hk h2 => (hj k hk).trans (FY.2 _ _ _ (by omega))
        obtain ⟨d0, d1⟩ := Cz.2.2.2.1
        have e0 : gI ma 29 237 (0 : Int32).toNatClampNeg = iZ p'.2.2.2.1 := (al 0 (by decide) (by decide)).trans d0
        rw [e0]
        have sd : ∀ {t n k : Nat}, ¬ (t = 29) → ¬ (t = 30) → gI ma t n k = gI mz t n k := fun h1 h2 => (Fa.2 _ _ _ (by omega)).trans (FY.2 _ _ _ (by omega))
        refine hS ma p' w hp hP ⟨⟨(al 0 (by decide) (by decide)).trans d0, (al 1 (by decide) (by decide)).trans d1, (hj 2 (by decide)).trans eY⟩, fun i w hi hw => ?_, fun k hk => ?_⟩ ⟨(sd (by decide) (by decide)).trans oz.1, (sd (by decide) (by decide)).trans oz.2⟩ ((sd (by decide) (by decide)).trans y0) ((sd (by decide) (by decide)).trans y9) ((Fz.tr (FY.mono (fun t n k z => Or.inr (Or.inl ⟨z.1, z.2.1⟩)))).tr (Fa.mono (fun t n k z => Or.inr (Or.inr (Or.inr z)))))
        · have hi : i < p'.2.2.2.1 := hi
          exact (al _ (by omega) (by omega)).trans (Cz.2.2.2.2.1 i w hi hw)
        · have hk : k < p'.2.2.2.2.2.1 := hk
          exact (al _ (by omega) (by omega)).trans (Cz.2.2.2.2.2 k hk)
      | succ s ih =>
        intro j ma ej hj Fa
        refine wp1_ok (by decide) OK_134 (cc := cd_134) rfl (stops := [146]) (f := 40) ?_
        refine And.intro (fun z => ?_) (fun _ => ?_)
        · rw [L1604, iZ_le (by decide) (by constructor <;> omega)] at z; omega
        refine And.intro ((iZ_in (by constructor <;> omega)).mpr (by omega)) ?_
        refine And.intro ((iZ_in (by constructor <;> omega)).mpr (by omega)) ?_
        refine And.intro trivial ?_
        have ec : (iZ (j : Int)).toNatClampNeg = j := by rw [iZ_clamp (by constructor <;> omega)]; omega
        rw [ec, L1, iZ_add]
        refine ih (j + 1) _ (by omega) (fun k hk => ?_) (Fa.tr (Fr.st ⟨rfl, rfl⟩))
        rw [gI_s]
        by_cases e : k = j
        · rw [if_pos ⟨e, rfl, rfl⟩, e]; exact Fa.2 _ _ _ (by omega)
        · rw [if_neg (by omega)]; exact hj k (by omega)
    exact loop 1604 0 m1 (by omega) (fun k hk => by omega) (Fr.rf _ _)
  have lines : ∀ (f : Nat) (p : PS) (mz : Mem), pAll tp n = pText tp n f p → n < p.1.2.1 + f → POK tp n p p.1.2.1 → MRS mz tp n p.1 → MOk mz → MPC mz p → gI mz 23 231 24 = (if bhP p then 1 else 0) → gI mz 23 231 0 = 0 → gI mz 23 231 9 = iZ 0 → (∀ k, gI mz 29 237 k = gI m 29 237 k) → Fr AMX m mz → smE true 134 98 [some (vR (some (23, 231))), some (vI (iZ N)), none] [] mz K := by
    intro f
    induction f with
    | zero =>
      intro p mz hp hf hP
      have := hP.1.2.1
      omega
    | succ f ih =>
      intro p mz hp hf hP Rz oz Cz y24 y0 y9 y29 Fz
      have a1 := hP.1.1
      have e14 : gI mz 23 231 14 = iZ p.1.1 := Rz.2.1
      unfold pText at hp
      refine wp1_ok (by decide) OK_134 (cc := cd_134) rfl (stops := [98, 119]) (f := 40) ?_
      refine And.intro (fun z => absurd oz.1 z) (fun _ => ?_)
      refine And.intro (fun z => ?_) (fun z => ?_)
      · rw [e14, L0, iZ_eq (by constructor <;> omega) (by decide)] at z
        rw [if_pos z] at hp
        exact And.intro trivial (good p mz hp hP oz Cz y0 y9 Fz)
      rw [e14, L0, iZ_eq (by constructor <;> omega) (by decide)] at z
      rw [if_neg z] at hp
      refine And.intro trivial (M_line hT hn hP oz Rz Cz y24 (fun ma e he hf' Fa => ?_) (fun ma pa he Ra oa Ca ea Fa => ?_))
      · rw [he] at hp
        exact And.intro trivial (fail ma e none hp (pLine_e he) hf' ((Fa.2 _ _ _ (by unfold AML; omega)).trans y0) ((Fa.2 _ _ _ (by unfold AML; omega)).trans y9) (fun k => (Fa.2 _ _ _ (by unfold AML; omega)).trans (y29 k)) (Fz.tr (Fa.mono (fun t n k z => AML_AMX z))))
      · rw [he] at hp
        have hk := pLine_ok hT hn hP he
        exact And.intro trivial (ih pa ma hp (by omega) hk.1 Ra oa Ca ea ((Fa.2 _ _ _ (by unfold AML; omega)).trans y0) ((Fa.2 _ _ _ (by unfold AML; omega)).trans y9) (fun k => (Fa.2 _ _ _ (by unfold AML; omega)).trans (y29 k)) (Fz.tr (Fa.mono (fun t n k z => AML_AMX z))))
  refine wp1_ok (by decide) OK_134 (cc := cd_134) rfl (stops := [94]) (f := 60) ?_
  refine And.intro (Or.inl rfl) ?_
  refine And.intro (by rw [L0, iZ_in (by decide)]; decide) ?_
  refine And.intro (by rw [L1, iZ_in (by decide)]; decide) ?_
  refine And.intro trivial ?_
  change smE true 134 94 [some (vR (some (23, 231))), some (vI (iZ N)), none] [] (tI m0 (iZ N)) K
  have FI := tI_fr m0 (iZ N)
  have i9 : gI (tI m0 (iZ N)) 23 231 9 = iZ 0 := rfl
  have i10 : gI (tI m0 (iZ N)) 23 231 10 = iZ N := rfl
  have i11 : gI (tI m0 (iZ N)) 23 231 11 = iZ 0 := rfl
  have i12 : gI (tI m0 (iZ N)) 23 231 12 = iZ 0 := rfl
  have i13 : gI (tI m0 (iZ N)) 23 231 13 = iZ (-1) := rfl
  have i19 : gI (tI m0 (iZ N)) 23 231 19 = iZ (3 * 0) := rfl
  have i20 : gI (tI m0 (iZ N)) 23 231 20 = iZ (3 * 0) := rfl
  have i21 : gI (tI m0 (iZ N)) 23 231 21 = iZ (3 * 512) := rfl
  have i22 : gI (tI m0 (iZ N)) 23 231 22 = iZ 0 := rfl
  have i23 : gI (tI m0 (iZ N)) 23 231 23 = iZ 100 := rfl
  have i24 : gI (tI m0 (iZ N)) 23 231 24 = 0 := rfl
  have j0 : gI (tI m0 (iZ N)) 30 238 0 = iZ (0 : Nat) := rfl
  have j1 : gI (tI m0 (iZ N)) 30 238 1 = iZ (0 : Nat) := rfl
  generalize tI m0 (iZ N) = m1 at *
  have B1 : MB m1 := (hB.fr F0 (fun t n k z => by omega)).fr FI (fun t n k z => by omega)
  have W1 : MWd m1 := fun k hk => (FI.2 _ _ _ (by omega)).trans ((F0.2 _ _ _ (by omega)).trans (hW k hk))
  have T1 : MTp m1 tp n := ⟨fun k hk => (FI.2 _ _ _ (by omega)).trans ((F0.2 _ _ _ (by omega)).trans (hc k hk)), by rw [i10, eN]⟩
  have G1 : Fr AMX m m1 := (F0.mono (fun t n k z => Or.inl ⟨z.1, z.2.1, by omega⟩)).tr (FI.mono (fun t n k z => by
    rcases z with z | z
    · exact Or.inl ⟨z.1, z.2.1, by omega⟩
    · exact Or.inr (Or.inl z)))
  have P1 : MPC m1 (p00 tp n) := ⟨⟨B1, W1, i22⟩, ⟨i23, i21, i20, i19⟩, fun z => absurd z (by show ¬ (0 : Nat) < 0; decide), ⟨⟨j0, j1⟩, fun i w hi hw => absurd hi (by show ¬ i < 0; omega), fun k hk => absurd hk (by show ¬ k < 0; omega)⟩⟩
  have g9 : ∀ k, gI m1 29 237 k = gI m 29 237 k := fun k => (FI.2 _ _ _ (by omega)).trans (F0.2 _ _ _ (by omega))
  have y0 : gI m1 23 231 0 = 0 := (FI.2 _ _ _ (by omega)).trans z0
  refine wp1_ok (by decide) OK_134 (cc := cd_134) rfl (stops := [98]) (f := 40) ?_
  refine And.intro trivial (M_goes (p := 0) i11 (by omega) hn hT T1 (fun m2 T2 K2 F2 => ?_))
  refine And.intro trivial (lines (n + 1) (p00 tp n) m2 rfl (by omega) (p00_ok hT hn) ⟨T2, K2⟩ (MOk.fr ⟨i12, i13⟩ F2 (by unfold AU; omega) (by unfold AU; omega)) (P1.fr F2 (fun t n k z => by unfold AU; omega) (fun k hk => by unfold AU; omega) (fun k hk => by unfold AU; omega)) ((F2.2 _ _ _ (by unfold AU; omega)).trans i24) ((F2.2 _ _ _ (by unfold AU; omega)).trans y0) ((F2.2 _ _ _ (by unfold AU; omega)).trans i9) (fun k => (F2.2 _ _ _ (by unfold AU; omega)).trans (g9 k)) (G1.tr (F2.mono (fun t n k z => AML_AMX (AU_AML z)))))
end MTEXT
