/-! THE CLASS: text -/
section CTEXT2
variable {m : Mem} {K : Option SV → Mem → Prop} {tp : Nat → Int} {n sn : Nat} {p : PS}
theorem c_closeLine (hT : TPOK tp) (hn : n ≤ 800) (hp : TOK tp n p.1) (hC : CS m tp n sn p)
    (hF : ∀ m', ¬ (p.1.1 = 3 ∧ p.1.2.2.1 = 59) → FTd m' (1, p.1.2.1) → Fr (AD sn) m m' → K (some (vI 0)) m') (hS : ∀ m', p.1.1 = 3 ∧ p.1.2.2.1 = 59 → CS m' tp n sn (nx tp n p.1, p.2) → Fr (AD sn) m m' → K (some (vI 1)) m') : smC true 37 [vR (some (1, 1))] m K := by
  refine smC_wp [some (vR (some (1, 1)))] cd_37 [] 60 OK_37 (by decide) rfl rfl (Nat.le_of_ble_eq_true rfl) ?_
  refine And.intro trivial (c_takeByte (b := 59) rfl (by decide) hT hn hp hC.1 (fun ma w R F => ?_) (fun w => ?_))
  · refine And.intro (fun _ => ?_) (fun z => absurd z (by decide))
    exact And.intro (Or.inr rfl) (hS ma w (hC.rd (F.mono (fun t n k z => AT_AR z)) R) (F.mono (fun t n k z => AT_AD z)))
  · refine And.intro (fun z => absurd rfl z) (fun _ => ?_)
    refine And.intro trivial (c_fail (a := 1) (p := p.1.2.1) rfl hC.1.2.2.1 (fun mb f1 f2 Fb => ?_))
    refine And.intro (fun _ => ?_) (fun z => absurd rfl z)
    exact And.intro (Or.inl rfl) (hF mb w ⟨f1, f2⟩ (Fb.mono (fun t n k z => AR_AD (AF_AR z))))
theorem c_hasMore (hp : TOK tp n p.1) (hC : CS m tp n sn p) (h1 : ¬ p.1.1 = 0 → K (some (vI 1)) m) (h0 : p.1.1 = 0 → K (some (vI 0)) m) : smC true 12 [vR (some (1, 1))] m K := by
  have a1 := hp.1
  refine smC_wp [some (vR (some (1, 1)))] cd_12 [] 60 OK_12 (by decide) rfl rfl (Nat.le_of_ble_eq_true rfl) ?_
  refine And.intro (fun z => ?_) (fun z => ?_)
  · rw [hC.1.2.1, L0, iZ_eq (by constructor <;> omega) (by decide)] at z
    exact And.intro (Or.inl rfl) (h0 z)
  · rw [hC.1.2.1, L0, iZ_eq (by constructor <;> omega) (by decide)] at z
    exact And.intro (Or.inr rfl) (h1 z)
/-- what text may touch -/
def AE (sn : Nat) : Nat → Nat → Nat → Prop := fun t n k => AD sn t n k ∨ (t = 1 ∧ n = 1) ∨ (t = 0 ∧ n = 0 ∧ (k = 5 ∨ k = 6)) ∨ (t = 4 ∧ n = 4 ∧ k = 3)
def BE : Nat → Nat → Nat → Prop := fun t n k => (t = 1 ∧ n = 1 ∧ k = 9) ∨ (t = 0 ∧ n = 0 ∧ (k = 2 ∨ k = 3))
def AE0 (sn : Nat) : Nat → Nat → Nat → Prop := fun t n k => AD sn t n k ∨ (t = 1 ∧ n = 1)
def BE0 : Nat → Nat → Nat → Prop := fun t n k => t = 1 ∧ n = 1 ∧ k = 9
/-- the text's beginning -/
def p00 (tp : Nat → Int) (n : Nat) : PS := (scan tp n 0, (0, 100, 512, 0), fun _ => 2, (0, fun _ _ => 0, 0, fun _ => 0, 0))
theorem p00_ok (hT : TPOK tp) (hn : n ≤ 800) : POK tp n (p00 tp n) (p00 tp n).1.2.1 := by
  have o := scan_ok (p := 0) hT hn (by omega)
  refine ⟨o.1, ⟨by show (-7 : Int) ≤ 0 ∧ (0 : Int) ≤ 7; decide, by show (20 : Int) ≤ 100 ∧ (100 : Int) ≤ 400; decide, by show (16 : Int) ≤ 512 ∧ (512 : Int) ≤ 8192; decide⟩, td2, by show (0 : Nat) ≤ 48; decide, fun i hi => absurd hi (by show ¬ i < 0; omega), ⟨fun z => absurd z (by show ¬ (0 : Nat) < 0; decide), fun i hi => absurd hi (by show ¬ i + 1 < 0; omega), fun i hi => absurd hi (by show ¬ i + 1 = 0; omega), fun _ => rfl⟩, ⟨by show (0 : Int) ≤ 0; decide, by show (0 : Int) ≤ 0; decide, by show (0 : Int) ≤ 8192 * ((0 : Nat) : Int); decide⟩, by show 7 * 0 ≤ (scan tp n 0).2.1; omega, fun _ => rfl, ⟨fun z => absurd z (by show ¬ (0 : Nat) < 0; decide), fun k hk => absurd hk (by show ¬ k + 1 < 0; omega), fun k hk => absurd hk (by show ¬ k < 0; omega), fun _ => rfl⟩, fun z => absurd z (by show ¬ (0 : Nat) < 0; decide)⟩
theorem c_startR {x : Int32} (hx : x = iZ n) (hT : TPOK tp) (hn : n ≤ 800) (hc : ∀ k, k < 800 → gI m 2 2 k = iZ (tp k))
    (h : ∀ m', CS m' tp n sn (p00 tp n) → gI m' 1 1 1 = iZ 0 → FX (AE0 sn) BE0 m m' → (nX m' = nX m ∧ nS m' = nS m) → K none m') : smC true 10 [vR (some (1, 1)), vR (some (10, sn)), vI x] m K := by
  subst hx
  refine smC_wp [some (vR (some (1, 1))), some (vR (some (10, sn))), some (vI (iZ n))] cd_10 [12] 60 OK_10 (by decide) rfl rfl (Nat.le_of_ble_eq_true rfl) ?_
  refine Exists.intro (some (10, sn)) (And.intro rfl ?_)
  have h52 : ∀ {Q : Option SV → Mem → Prop} {ma : Mem}, Q none (sI (sI (sI ma 10 sn 1 0) 10 sn 3 0) 10 sn 4 0) → smC true 52 [vR (some (10, sn))] ma Q := by
    intro Q ma hQ
    refine smC_wp [some (vR (some (10, sn)))] cd_52 [] 60 OK_52 (by decide) rfl rfl (Nat.le_of_ble_eq_true rfl) ?_
    exact And.intro trivial hQ
  refine And.intro trivial (h52 ?_)
  refine And.intro trivial ?_
  have F1 : FX (AE0 sn) BE0 m (sI (sI (sI (sP m 1 1 9 (some (10, sn))) 10 sn 1 0) 10 sn 3 0) 10 sn 4 0) := (((FX.stP ⟨rfl, rfl, rfl⟩).tr (FX.stI (Or.inl (Or.inr (Or.inr ⟨by omega, by omega⟩))))).tr (FX.stI (Or.inl (Or.inr (Or.inr ⟨by omega, by omega⟩))))).tr (FX.stI (Or.inl (Or.inr (Or.inr ⟨by omega, by omega⟩))))
  have g9 : gP (sI (sI (sI (sP m 1 1 9 (some (10, sn))) 10 sn 1 0) 10 sn 3 0) 10 sn 4 0) 1 1 9 = some (10, sn) := rfl
  have eX : nX (sI (sI (sI (sP m 1 1 9 (some (10, sn))) 10 sn 1 0) 10 sn 3 0) 10 sn 4 0) = nX m := rfl
  have eS : nS (sI (sI (sI (sP m 1 1 9 (some (10, sn))) 10 sn 1 0) 10 sn 3 0) 10 sn 4 0) = nS m := rfl
  have s1 : gI (sI (sI (sI (sP m 1 1 9 (some (10, sn))) 10 sn 1 0) 10 sn 3 0) 10 sn 4 0) 10 sn 1 = iZ 0 := by simp only [gI_s]; simp; rfl
  have s3 : gI (sI (sI (sI (sP m 1 1 9 (some (10, sn))) 10 sn 1 0) 10 sn 3 0) 10 sn 4 0) 10 sn 3 = iZ 0 := by simp only [gI_s]; simp; rfl
  have s4 : gI (sI (sI (sI (sP m 1 1 9 (some (10, sn))) 10 sn 1 0) 10 sn 3 0) 10 sn 4 0) 10 sn 4 = iZ 0 := by simp only [gI_s]; simp; rfl
  have st : ∀ k, k < 800 → gI (sI (sI (sI (sP m 1 1 9 (some (10, sn))) 10 sn 1 0) 10 sn 3 0) 10 sn 4 0) 2 2 k = iZ (tp k) := by
    intro k hk; simp only [gI_s]; simp; exact hc k hk
  generalize sI (sI (sI (sP m 1 1 9 (some (10, sn))) 10 sn 1 0) 10 sn 3 0) 10 sn 4 0 = m1 at *
  refine wp1_ok (by decide) OK_10 (cc := cd_10) rfl (stops := [68]) (f := 90) ?_
  refine And.intro trivial (c_min ?_)
  have emin : iZ (min (iZ (n : Int)).toInt (nI 800).toInt) = iZ n := by
    rw [iZ_nI, iZ_toInt (by constructor <;> omega), iZ_toInt (by decide)]; congr 1; omega
  refine And.intro trivial ?_
  change smE true 10 68 [some (vR (some (1, 1))), some (vR (some (10, sn))), some (vI (iZ n))] [] (sI (sI (sI (sI (sI (sI (sI (sI (sI m1 1 1 2 (iZ (min (iZ (n : Int)).toInt (nI 800).toInt))) 1 1 1 0) 1 1 3 0) 1 1 10 0) 1 1 11 100) 1 1 12 512) 1 1 13 0) 1 1 16 0) 1 1 17 (-1)) K
  rw [emin]
  have F2 : Fr (fun t n _ => t = 1 ∧ n = 1) m1 (sI (sI (sI (sI (sI (sI (sI (sI (sI m1 1 1 2 (iZ n)) 1 1 1 0) 1 1 3 0) 1 1 10 0) 1 1 11 100) 1 1 12 512) 1 1 13 0) 1 1 16 0) 1 1 17 (-1)) := ((((((((Fr.st ⟨rfl, rfl⟩).tr (Fr.st ⟨rfl, rfl⟩)).tr (Fr.st ⟨rfl, rfl⟩)).tr (Fr.st ⟨rfl, rfl⟩)).tr (Fr.st ⟨rfl, rfl⟩)).tr (Fr.st ⟨rfl, rfl⟩)).tr (Fr.st ⟨rfl, rfl⟩)).tr (Fr.st ⟨rfl, rfl⟩)).tr (Fr.st ⟨rfl, rfl⟩)
  have q2 : gI (sI (sI (sI (sI (sI (sI (sI (sI (sI m1 1 1 2 (iZ n)) 1 1 1 0) 1 1 3 0) 1 1 10 0) 1 1 11 100) 1 1 12 512) 1 1 13 0) 1 1 16 0) 1 1 17 (-1)) 1 1 2 = iZ n := by simp only [gI_s]; simp
  have q1 : gI (sI (sI (sI (sI (sI (sI (sI (sI (sI m1 1 1 2 (iZ n)) 1 1 1 0) 1 1 3 0) 1 1 10 0) 1 1 11 100) 1 1 12 512) 1 1 13 0) 1 1 16 0) 1 1 17 (-1)) 1 1 1 = iZ 0 := by simp only [gI_s]; simp; rfl
  have q3 : gI (sI (sI (sI (sI (sI (sI (sI (sI (sI m1 1 1 2 (iZ n)) 1 1 1 0) 1 1 3 0) 1 1 10 0) 1 1 11 100) 1 1 12 512) 1 1 13 0) 1 1 16 0) 1 1 17 (-1)) 1 1 3 = iZ ((0 : Nat) : Int) := by simp only [gI_s]; simp; rfl
  have q10 : CKk (sI (sI (sI (sI (sI (sI (sI (sI (sI m1 1 1 2 (iZ n)) 1 1 1 0) 1 1 3 0) 1 1 10 0) 1 1 11 100) 1 1 12 512) 1 1 13 0) 1 1 16 0) 1 1 17 (-1)) (0, 100, 512, 0) := by
    refine ⟨?_, ?_, ?_, ?_⟩ <;> simp only [gI_s] <;> simp <;> rfl
  have q16 : NFt (sI (sI (sI (sI (sI (sI (sI (sI (sI m1 1 1 2 (iZ n)) 1 1 1 0) 1 1 3 0) 1 1 10 0) 1 1 11 100) 1 1 12 512) 1 1 13 0) 1 1 16 0) 1 1 17 (-1)) := by
    refine ⟨?_, ?_⟩ <;> simp only [gI_s] <;> simp <;> rfl
  generalize sI (sI (sI (sI (sI (sI (sI (sI (sI m1 1 1 2 (iZ n)) 1 1 1 0) 1 1 3 0) 1 1 10 0) 1 1 11 100) 1 1 12 512) 1 1 13 0) 1 1 16 0) 1 1 17 (-1) = m2 at *
  refine wp1_ok (by decide) OK_10 (cc := cd_10) rfl (stops := []) (f := 30) ?_
  refine And.intro trivial (c_advance (p := 0) q3 (by omega) hn hT ⟨fun k hk => (F2.2 _ _ _ (by omega)).trans (st k hk), q2⟩ (fun m3 T3 k3 F3 => ?_))
  have FT3 : Fr (fun t n _ => t = 1 ∧ n = 1) m2 m3 := F3.mono (fun t n k z => ⟨z.1, z.2.1⟩)
  refine And.intro trivial (h m3 ⟨⟨⟨T3, (F3.2 _ _ _ (by unfold AT; omega)).trans q16.1, (F3.2 _ _ _ (by unfold AT; omega)).trans q16.2⟩, k3⟩, q10.fr F3 (fun j hj => by unfold AT; omega), fun z => absurd z (by show ¬ (0 : Nat) < 0; decide), ⟨⟨?_, ?_, ?_⟩, fun i hi => absurd hi (by show ¬ i < 0; omega), fun k hk => absurd hk (by show ¬ k < 0; omega)⟩, ?_⟩ ?_ ?_ ⟨?_, ?_⟩)
  · exact (FT3.2 _ _ _ (by omega)).trans ((F2.2 _ _ _ (by omega)).trans s1)
  · exact (FT3.2 _ _ _ (by omega)).trans ((F2.2 _ _ _ (by omega)).trans s3)
  · exact (FT3.2 _ _ _ (by omega)).trans ((F2.2 _ _ _ (by omega)).trans s4)
  · exact (Fr_gP FT3 _ _ _).trans ((Fr_gP F2 _ _ _).trans g9)
  · exact (F3.2 _ _ _ (by unfold AT; omega)).trans q1
  · exact F1.tr (Fr.fx ((F2.tr FT3).mono (fun t n k z => Or.inr z)))
  · have := (F2.tr FT3).1
    unfold nX at eX ⊢; rw [this]; exact eX
  · have := (F2.tr FT3).1
    unfold nS at eS ⊢; rw [this]; exact eS
end CTEXT2
