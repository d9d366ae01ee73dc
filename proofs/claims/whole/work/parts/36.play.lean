/-! THE WRITER's plays: the state s of the written tones, the note's environment (a memory m0 and what may differ from it) -/
abbrev WS := List Tn × Bool × Int
def plN (i : Nat) (k : Int) (p : Int × Int) (l : Int) (s : WS) : WS := ((k, p.1, p.2, (i : Int), s.2.2, l) :: s.1, true, s.2.2 + l)
def shN (d : Int) (s : WS) : WS := (match s.1 with | [] => [] | t :: ts => (t.1, t.2.1, t.2.2.1, t.2.2.2.1, t.2.2.2.2.1, t.2.2.2.2.2 - d) :: ts, s.2.1, s.2.2 - d)
abbrev okP (p : Int × Int) : Prop := (0 ≤ p.1 ∧ p.1 < 200) ∧ -2 ≤ p.2 ∧ p.2 < 68
abbrev okT (t : Tn) : Prop := okP (t.2.1, t.2.2.1) ∧ 1 ≤ t.2.2.2.2.2 ∧ t.2.2.2.2.2 ≤ 1000000
def WOK (s : WS) : Prop := (s.2.1 = true → s.1 ≠ []) ∧ ∀ t ∈ s.1, okT t
def Fr (A : Nat → Nat → Nat → Prop) (m m' : Mem) : Prop := m'.2 = m.2 ∧ ∀ t n k, ¬ A t n k → gI m' t n k = gI m t n k
theorem Fr.rf (A : Nat → Nat → Nat → Prop) (m : Mem) : Fr A m m := ⟨rfl, fun _ _ _ _ => rfl⟩
theorem Fr.tr {A : Nat → Nat → Nat → Prop} {a b c : Mem} (h : Fr A a b) (h2 : Fr A b c) : Fr A a c :=
  ⟨h2.1.trans h.1, fun t n k z => (h2.2 t n k z).trans (h.2 t n k z)⟩
theorem Fr.mono {A B : Nat → Nat → Nat → Prop} {a b : Mem} (h : Fr A a b) (hs : ∀ t n k, A t n k → B t n k) : Fr B a b :=
  ⟨h.1, fun t n k z => h.2 t n k (fun q => z (hs t n k q))⟩
theorem Fr.st {A : Nat → Nat → Nat → Prop} {m : Mem} {t n k : Nat} {v : Int32} (h : A t n k) : Fr A m (sI m t n k v) := by
  refine ⟨rfl, fun t' n' k' z => ?_⟩
  rw [gI_s, if_neg]
  rintro ⟨rfl, rfl, rfl⟩
  exact z h
theorem Fr_gP {A : Nat → Nat → Nat → Prop} {a b : Mem} (h : Fr A a b) (t n k : Nat) : gP b t n k = gP a t n k := by
  show b.2.1 t n k = a.2.1 t n k; rw [h.1]
theorem Fr_gL {A : Nat → Nat → Nat → Prop} {a b : Mem} (h : Fr A a b) (t n : Nat) : gL b t n = gL a t n := by
  show b.2.2.2.1 t n = a.2.2.2.1 t n; rw [h.1]
/-- what the plays of note i may touch -/
def AW (sc : Nat) (kp : Bool) (i : Nat) : Nat → Nat → Nat → Prop := fun t n k =>
  (t = 6 ∧ n = sc ∧ (k = 1 ∨ k = 6 ∨ k = 7 ∨ k = 8 ∨ k = 9)) ∨ (t = 20 ∧ kp = true) ∨ (t = 15 ∧ n = sc + 4 ∧ k = i) ∨ (t = 16 ∧ n = sc + 5 ∧ k = i) ∨ (t = 4 ∧ n = 4 ∧ (k = 11 ∨ k = 13))
theorem FrS.fr {m m' : Mem} {sc i : Nat} {kp : Bool} (h : FrS m m' sc kp) : Fr (AW sc kp i) m m' := by
  refine ⟨h.2.2.2.1, fun t n k z => ?_⟩
  by_cases h6 : t = 6
  · subst h6
    by_cases hn : n = sc
    · subst hn
      have hz : ¬ (k = 1 ∨ k = 6 ∨ k = 7 ∨ k = 8 ∨ k = 9) := fun q => z (Or.inl ⟨rfl, rfl, q⟩)
      exact h.2.2.1 k (by omega) (by omega) (by omega) (by omega) (by omega)
    · rw [h.2.1 n hn]
  · by_cases h20 : t = 20
    · subst h20
      cases kp with
      | true => exact absurd (Or.inr (Or.inl ⟨rfl, rfl⟩)) z
      | false => rw [h.2.2.2.2 rfl]
    · rw [h.1 t h6 h20]
def EW (m0 : Mem) (sc i nn : Nat) (T : Int) (P : Int → Int × Int) : Prop :=
  (gP m0 4 4 5 = some (6, sc) ∧ gP m0 4 4 8 = some (8, nn)) ∧ (gI m0 4 4 7 = iZ i ∧ gI m0 4 4 10 = iZ T) ∧
  (gI m0 17 26 0 = iZ (pit (P 0).1 (P 0).2) ∧ gI m0 17 26 1 = iZ (pit (P 1).1 (P 1).2) ∧ gI m0 17 26 2 = iZ (pit (P 2).1 (P 2).2) ∧ gI m0 17 26 4 = iZ (pit (P 4).1 (P 4).2)) ∧
  gI m0 8 nn 0 = iZ (pit (P 0).1 (P 0).2) ∧ (i < 48 ∧ 8 ≤ T ∧ T ≤ 2000) ∧ (okP (P 0) ∧ okP (P 1) ∧ okP (P 2) ∧ okP (P 4)) ∧ (P 0).1 < (P 1).1
def CW (m0 : Mem) (sc i : Nat) (kp : Bool) (cap : Nat) (m : Mem) (s : WS) (lf o a : Int) (b : Bool) : Prop :=
  RepS m sc kp cap s.1 s.2.1 s.2.2 ∧ (gI m 4 4 11 = iZ lf ∧ gI m 15 (sc + 4) i = iZ o ∧ gI m 16 (sc + 5) i = iZ a ∧ gI m 4 4 13 = (if b then 1 else 0)) ∧ WOK s ∧ Fr (AW sc kp i) m0 m
section PLAY
variable {m0 m : Mem} {K : Option SV → Mem → Prop} {sc i nn cap : Nat} {kp b : Bool} {T lf o a : Int} {P : Int → Int × Int} {s : WS}
theorem CW.up {m' : Mem} {s' : WS} (hC : CW m0 sc i kp cap m s lf o a b) (hR : RepS m' sc kp cap s'.1 s'.2.1 s'.2.2) (hF : FrS m m' sc kp) (hW : WOK s') : CW m0 sc i kp cap m' s' lf o a b := by
  refine ⟨hR, ⟨?_, ?_, ?_, ?_⟩, hW, hC.2.2.2.tr hF.fr⟩
  · rw [hF.1 4 (by decide) (by decide)]; exact hC.2.1.1
  · rw [hF.1 15 (by decide) (by decide)]; exact hC.2.1.2.1
  · rw [hF.1 16 (by decide) (by decide)]; exact hC.2.1.2.2.1
  · rw [hF.1 4 (by decide) (by decide)]; exact hC.2.1.2.2.2
theorem WOK.pl {k l : Int} {p : Int × Int} (h : WOK s) (hp : okP p) (hl : 1 ≤ l ∧ l ≤ 1000000) : WOK (plN i k p l s) := by
  refine ⟨fun _ => (by simp [plN]), fun t ht => ?_⟩
  simp only [plN, List.mem_cons] at ht
  rcases ht with rfl | ht
  · exact ⟨hp, hl⟩
  · exact h.2 t ht
/-- reads of the environment, from any state of the note -/
theorem rd_n {t n k : Nat} (hC : CW m0 sc i kp cap m s lf o a b) (h6 : t ≠ 6) (h20 : t ≠ 20) (h15 : t ≠ 15) (h16 : t ≠ 16) (h4 : t = 4 → k ≠ 11 ∧ k ≠ 13) : gI m t n k = gI m0 t n k :=
  hC.2.2.2.2 t n k (by unfold AW; omega)
theorem rd_P {t n k : Nat} (hC : CW m0 sc i kp cap m s lf o a b) : gP m t n k = gP m0 t n k := Fr_gP hC.2.2.2 t n k
theorem c_add {k l : Int} {p : Int × Int} {xi xk xp xl : Int32} (hxi : xi = iZ i) (hxk : xk = iZ k) (hxp : xp = iZ (pit p.1 p.2)) (hxl : xl = iZ l) (hC : CW m0 sc i kp cap m s lf o a b) (hp : okP p) (hl : 1 ≤ l ∧ l ≤ 1000000) (hc : s.1.length < cap)
    (h : ∀ m', CW m0 sc i kp cap m' (plN i k p l s) lf o a b → K none m') : smC true 44 [vR (some (6, sc)), vI xi, vI xk, vI xp, vI xl] m K :=
  c_addTone hxi hxk hxp hxl hC.1.1 hc (fun m' hR hF => h m' (hC.up (s' := plN i k p l s) hR hF (hC.2.2.1.pl hp hl)))
theorem c_play {k l : Int} {xk xl : Int32} (hE : EW m0 sc i nn T P) (hxk : xk = iZ k) (hxl : xl = iZ l) (hk : k = 0 ∨ k = 1 ∨ k = 2 ∨ k = 4) (hC : CW m0 sc i kp cap m s lf o a b) (hl : 1 ≤ l ∧ l ≤ 1000000) (hc : s.1.length < cap)
    (h : ∀ m', CW m0 sc i kp cap m' (plN i k (P k) l s) lf o a b → K none m') : smC true 71 [vR (some (4, 4)), vI xk, vI xl] m K := by
  subst hxk; subst hxl
  have hP : gI m 17 26 k.toNat = iZ (pit (P k).1 (P k).2) ∧ okP (P k) := by
    rw [rd_n hC (by decide) (by decide) (by decide) (by decide) (by omega)]
    rcases hk with rfl | rfl | rfl | rfl
    · exact ⟨hE.2.2.1.1, hE.2.2.2.2.2.1.1⟩
    · exact ⟨hE.2.2.1.2.1, hE.2.2.2.2.2.1.2.1⟩
    · exact ⟨hE.2.2.1.2.2.1, hE.2.2.2.2.2.1.2.2.1⟩
    · exact ⟨hE.2.2.1.2.2.2, hE.2.2.2.2.2.1.2.2.2⟩
  refine smC_wp [some (vR (some (4, 4))), some (vI (iZ k)), some (vI (iZ l))] cd_71 [] 40 OK_71 (by decide) rfl rfl (Nat.le_of_ble_eq_true rfl) ?_
  refine Exists.intro _ (And.intro ((rd_P hC).trans hE.1.1) ?_)
  refine And.intro ((iZ_in (by constructor <;> omega)).mpr (by show 0 ≤ k ∧ k < 5; omega)) ?_
  refine And.intro trivial (c_add ?_ rfl ?_ rfl hC hP.2 hl hc (fun m' h' => And.intro trivial (h m' h')))
  · exact (rd_n hC (by decide) (by decide) (by decide) (by decide) (by omega)).trans hE.2.1.1
  · rw [iZ_clamp (by constructor <;> omega)]; exact hP.1
end PLAY
