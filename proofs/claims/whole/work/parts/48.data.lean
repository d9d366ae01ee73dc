/-! THE SONG: notes by the numbers of their fields (0 is a note, 1 letter, 2 octave, 3 number, 4 begin, 5 length, 6 bar, 7 ties, 8 key, 9 speed, 10 body, 11 prefix, 12 behind, 13 up, 14 down, 15..17 held, 18.. 22.. 26.. graces) -/
abbrev NF := Nat → Int
abbrev Dt := Nat × (Nat → NF) × Nat × (Nat → Int) × Int
def nStep (f : NF) : Int := 7 * f 2 + f 1
def nPit (f : NF) : Int := if f 0 = 1 then pit (f 3) (nStep f) else -1
def nGr (f : NF) (j : Nat) : Int × Int := (f (26 + j), 7 * f (22 + j) + f (18 + j))
def ngr (f : NF) : Nat := if f 11 = 5 then 1 else if f 11 = 6 then 0 else (f 11).toNat
abbrev tnOK (l o n : Int) : Prop := (0 ≤ l ∧ l ≤ 6) ∧ (0 ≤ o ∧ o ≤ 8) ∧ natN (7 * o + l) - 1 ≤ n ∧ n ≤ natN (7 * o + l) + 1
abbrev sgOK (s : Int) : Prop := -1 ≤ s ∧ s ≤ 2
def NOK (f : NF) : Prop :=
  (f 0 = 0 ∨ f 0 = 1) ∧ (0 ≤ f 4 ∧ f 4 ≤ 1000000) ∧ (16 ≤ f 5 ∧ f 5 ≤ 1000000 ∧ f 5 % 16 = 0) ∧ (0 ≤ f 6 ∧ f 6 < 120) ∧ (0 ≤ f 7 ∧ f 7 ≤ 800) ∧ (-7 ≤ f 8 ∧ f 8 ≤ 7) ∧ (20 ≤ f 9 ∧ f 9 ≤ 400) ∧ (0 ≤ f 10 ∧ f 10 ≤ 8) ∧ (0 ≤ f 11 ∧ f 11 ≤ 6) ∧ (0 ≤ f 12 ∧ f 12 ≤ 2) ∧
  (f 0 = 0 → f 10 = 0 ∧ f 11 = 0 ∧ f 12 = 0) ∧
  (f 0 = 1 → tnOK (f 1) (f 2) (f 3) ∧ (sgOK (f 13) ∧ sgOK (f 14) ∧ sgOK (f 15) ∧ sgOK (f 16) ∧ sgOK (f 17)) ∧ ∀ j, j < ngr f → tnOK (f (18 + j)) (f (22 + j)) (f (26 + j)))
def NRep (m : Mem) (n : Nat) (f : NF) : Prop :=
  (gI m 8 n 0 = iZ (nPit f) ∧ gI m 8 n 1 = iZ (f 4) ∧ gI m 8 n 2 = iZ (f 5) ∧ gI m 8 n 3 = iZ (f 6) ∧ gI m 8 n 4 = iZ (f 8) ∧ gI m 8 n 5 = iZ (f 9) ∧ gI m 8 n 6 = iZ (f 7) ∧ gI m 8 n 7 = iZ (f 11) ∧ gI m 8 n 9 = iZ (f 10) ∧ gI m 8 n 12 = iZ (f 12)) ∧
  (f 0 = 1 → (gI m 8 n 10 = iZ (f 13) ∧ gI m 8 n 11 = iZ (f 14) ∧ gI m 8 n 13 = iZ (f 15) ∧ gI m 8 n 14 = iZ (f 16) ∧ gI m 8 n 15 = iZ (f 17)) ∧ ∀ j, j < ngr f → gI m 9 (n + 1) j = iZ (pit (nGr f j).1 (nGr f j).2))
def DOK (D : Dt) : Prop := D.1 ≤ 48 ∧ (∀ i, i < D.1 → NOK (D.2.1 i)) ∧ D.2.2.1 ≤ 120
def SRep (m : Mem) (sn : Nat) (D : Dt) : Prop :=
  (gI m 10 sn 1 = iZ D.1 ∧ gI m 10 sn 3 = iZ D.2.2.1 ∧ gI m 10 sn 4 = iZ D.2.2.2.2) ∧ (∀ i, i < D.1 → NRep m (sn + 1 + 2 + 2 * i) (D.2.1 i)) ∧ ∀ k, k < D.2.2.1 → gI m 12 (sn + 2) k = iZ (D.2.2.2.1 k)
theorem natN_lo {s : Int} (h : -2 ≤ s ∧ s < 68) : 9 ≤ natN s ∧ natN s ≤ 131 := by
  have h1 := natN_rng h
  refine ⟨?_, h1.2⟩
  have h2 := bsN_rng (s % 7) (m7 s)
  by_cases h0 : 0 ≤ s
  · unfold natN; omega
  · have : s = -2 ∨ s = -1 := by omega
    rcases this with rfl | rfl <;> decide
theorem byN_lo {s sg key : Int} (h : -2 ≤ s ∧ s < 68) (hs : -1 ≤ sg ∧ sg ≤ 2) : 8 ≤ byN s sg key ∧ byN s sg key ≤ 133 := by
  have := natN_lo h
  have := altN_rng key (s % 7)
  unfold byN; split <;> omega
theorem NOK.pit {f : NF} (h : NOK f) (h1 : f 0 = 1) : (0 ≤ nStep f ∧ nStep f < 63) ∧ (11 ≤ f 3 ∧ f 3 ≤ 120) := by
  have h2 := (h.2.2.2.2.2.2.2.2.2.2.2 h1).1
  have hs : 0 ≤ nStep f ∧ nStep f < 63 := by unfold nStep; omega
  refine ⟨hs, ?_⟩
  have hb := bsN_rng ((7 * f 2 + f 1) % 7) (m7 _)
  have : natN (7 * f 2 + f 1) = 12 * (f 2 + 1) + bsN ((7 * f 2 + f 1) % 7) := by unfold natN; rw [show (7 * f 2 + f 1) / 7 = f 2 by omega]
  omega
def Pk (hold : Int) (f : NF) : Int → Int × Int := fun k =>
  if k = 0 then (f 3, nStep f)
  else if k = 1 then (upN (f 3) (nStep f) (f 13) (f 15) (f 8) hold, nStep f + 1)
  else if k = 2 then (dnN (f 3) (nStep f) (f 14) (f 16) (f 8) hold, nStep f - 1)
  else (loN (dnN (f 3) (nStep f) (f 14) (f 16) (f 8) hold) (nStep f) (f 17) (f 8) hold, nStep f - 2)
theorem Pk_ok {f : NF} {hold : Int} (h : NOK f) (h1 : f 0 = 1) : (okP (Pk hold f 0) ∧ okP (Pk hold f 1) ∧ okP (Pk hold f 2) ∧ okP (Pk hold f 4)) ∧ (Pk hold f 0).1 < (Pk hold f 1).1 ∧ 8 ≤ (Pk hold f 2).1 := by
  have hp := h.pit h1
  have hsg := (h.2.2.2.2.2.2.2.2.2.2.2 h1).2.1
  have t1 := toldN_rng (hold := hold) hsg.1 hsg.2.2.1
  have t2 := toldN_rng (hold := hold) hsg.2.1 hsg.2.2.2.1
  have t3 := toldN_rng (hold := hold) (own := 2) (by decide) hsg.2.2.2.2
  have b1 := byN_lo (s := nStep f + 1) (key := f 8) (by omega) t1
  have b2 := byN_lo (s := nStep f - 1) (key := f 8) (by omega) t2
  have b3 := byN_lo (s := nStep f - 2) (key := f 8) (by omega) t3
  have e0 : Pk hold f 0 = (f 3, nStep f) := rfl
  have e1 : Pk hold f 1 = (upN (f 3) (nStep f) (f 13) (f 15) (f 8) hold, nStep f + 1) := rfl
  have e2 : Pk hold f 2 = (dnN (f 3) (nStep f) (f 14) (f 16) (f 8) hold, nStep f - 1) := rfl
  have e4 : Pk hold f 4 = (loN (dnN (f 3) (nStep f) (f 14) (f 16) (f 8) hold) (nStep f) (f 17) (f 8) hold, nStep f - 2) := rfl
  rw [e0, e1, e2, e4]
  unfold loN dnN upN okP
  refine ⟨⟨⟨?_, ?_, ?_⟩, ⟨?_, ?_, ?_⟩, ⟨?_, ?_, ?_⟩, ⟨?_, ?_, ?_⟩⟩, ?_, ?_⟩ <;> simp only <;> omega
section DATA
variable {m : Mem} {K : Option SV → Mem → Prop} {sn : Nat} {D : Dt}
theorem nPit_R {f : NF} (h : NOK f) : R32 (nPit f) ∧ (nPit f < 0 ↔ f 0 = 0) := by
  unfold nPit
  rcases h.1 with h0 | h0
  · rw [if_neg (by omega)]; exact ⟨by decide, by simp [h0]⟩
  · rw [if_pos h0]
    have := h.pit h0
    unfold pit
    refine ⟨by constructor <;> omega, ?_⟩
    constructor <;> intro <;> omega
theorem c_anyNote {i : Int} {x : Int32} (hx : x = iZ i) (ri : R32 i) (hD : DOK D) (hS : SRep m sn D)
    (h1 : 0 ≤ i ∧ i < D.1 → K (some (vR (some (8, sn + 1 + 2 + 2 * i.toNat)))) m) (h0 : ¬ (0 ≤ i ∧ i < D.1) → K (some (vR none)) m) : smC true 55 [vR (some (10, sn)), vI x] m K := by
  subst hx
  have hN := hD.1
  refine smC_wp [some (vR (some (10, sn))), some (vI (iZ i))] cd_55 [] 40 OK_55 (by decide) rfl rfl (Nat.le_of_ble_eq_true rfl) ?_
  refine And.intro (fun z => ?_) (fun z => ?_)
  · rw [L0, iZ_lt ri (by decide)] at z
    exact And.intro trivial (h0 (by omega))
  rw [L0, iZ_lt ri (by decide)] at z
  refine And.intro (fun y => ?_) (fun y => ?_)
  · rw [hS.1.1, iZ_le (by constructor <;> omega) ri] at y
    exact And.intro trivial (h0 (by omega))
  rw [hS.1.1, iZ_le (by constructor <;> omega) ri] at y
  refine And.intro (fun w => ?_) (fun w => ?_)
  · have w : nI 49 ≤ iZ i := w
    rw [iZ_nI, iZ_le (by decide) ri] at w
    omega
  refine And.intro ((iZ_in ri).mpr (by omega)) ?_
  refine And.intro trivial ?_
  rw [iZ_clamp ri]
  exact h1 (by omega)
theorem c_playedNote {i : Int} {x : Int32} (hx : x = iZ i) (ri : R32 i) (hD : DOK D) (hS : SRep m sn D)
    (h1 : 0 ≤ i ∧ i < D.1 → D.2.1 i.toNat 0 = 1 → K (some (vR (some (8, sn + 1 + 2 + 2 * i.toNat)))) m) (h0 : ¬ (0 ≤ i ∧ i < D.1 ∧ D.2.1 i.toNat 0 = 1) → K (some (vR none)) m) : smC true 54 [vR (some (10, sn)), vI x] m K := by
  refine smC_wp [some (vR (some (10, sn))), some (vI x), none] cd_54 [] 40 OK_54 (by decide) rfl rfl (Nat.le_of_ble_eq_true rfl) ?_
  refine And.intro trivial (c_anyNote hx ri hD hS (fun q => ?_) (fun q => ?_))
  · have hn := hD.2.1 i.toNat (by omega)
    have hp := nPit_R hn
    refine And.intro trivial (c_isRest hp.1 (hS.2.1 i.toNat (by omega)).1.1 (fun z => ?_) (fun z => ?_))
    · refine And.intro (fun w => absurd w (by decide)) (fun _ => ?_)
      have := hp.2.mp z
      exact And.intro trivial (h0 (by omega))
    · refine And.intro (fun _ => ?_) (fun w => absurd rfl w)
      have h2 : D.2.1 i.toNat 0 = 1 := by
        rcases hn.1 with w | w
        · have := hp.2.mpr w; omega
        · exact w
      exact And.intro trivial (h1 q h2)
  · exact And.intro trivial (h0 (by omega))
end DATA
