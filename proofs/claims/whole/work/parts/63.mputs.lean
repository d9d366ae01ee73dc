/-! THE MODEL: tones are put -/
def RowM (m : Mem) (k : Nat) (t : Tn) : Prop :=
  gI m 35 243 k = iZ t.1 ∧ gI m 34 242 k = iZ t.2.1 ∧ gI m 37 245 k = iZ (t.2.2.1 % 7) ∧ gI m 38 246 k = iZ (t.2.2.1 / 7) ∧ gI m 36 244 k = iZ t.2.2.2.1 ∧ gI m 39 247 k = iZ (3 * t.2.2.2.2.1) ∧ gI m 40 248 k = iZ (3 * t.2.2.2.2.2)
def MV (m : Mem) : List Tn → Prop
  | [] => True
  | t :: ts => RowM m ts.length t ∧ MV m ts
theorem MV_keep {m m' : Mem} : ∀ {ts : List Tn}, (∀ t n k, k < ts.length → 34 ≤ t ∧ t ≤ 40 → gI m' t n k = gI m t n k) → MV m ts → MV m' ts
  | [], _, _ => trivial
  | t :: ts, h, hr => by
    have hl : ts.length < (t :: ts).length := Nat.lt_succ_self _
    refine ⟨?_, MV_keep (fun a n k hk => h a n k (Nat.lt_succ_of_lt hk)) hr.2⟩
    obtain ⟨a1, a2, a3, a4, a5, a6, a7⟩ := hr.1
    exact ⟨(h 35 _ _ hl (by decide)).trans a1, (h 34 _ _ hl (by decide)).trans a2, (h 37 _ _ hl (by decide)).trans a3, (h 38 _ _ hl (by decide)).trans a4, (h 36 _ _ hl (by decide)).trans a5, (h 39 _ _ hl (by decide)).trans a6, (h 40 _ _ hl (by decide)).trans a7⟩
def lastN (s : WS) : Int := if s.2.1 then ltN s else -1
def AM (i : Nat) : Nat → Nat → Nat → Prop := fun t n k => (t = 23 ∧ n = 231 ∧ (k = 43 ∨ k = 49 ∨ k = 50 ∨ k = 51 ∨ k = 52)) ∨ (34 ≤ t ∧ t ≤ 40) ∨ (t = 45 ∧ n = 253 ∧ k = i)
/-- what the Model's writer reads and never changes -/
def E3 (m : Mem) (tm : Nat → Int) (D : Dt) : Prop := MB m ∧ MTm m tm ∧ MD m D
theorem E3.fr {A : Nat → Nat → Nat → Prop} {m m' : Mem} {tm : Nat → Int} {D : Dt} (h : E3 m tm D) (F : Fr A m m') (hA : ∀ t n k, t = 24 ∨ t = 27 ∨ t = 28 ∨ t = 29 → ¬ A t n k) : E3 m' tm D := by
  obtain ⟨⟨b1, b2⟩, h2, h3, h4, h5⟩ := h
  have r24 : ∀ n k, gI m' 24 n k = gI m 24 n k := fun n k => F.2 24 n k (hA _ _ _ (by decide))
  have r27 : ∀ n k, gI m' 27 n k = gI m 27 n k := fun n k => F.2 27 n k (hA _ _ _ (by decide))
  have r28 : ∀ n k, gI m' 28 n k = gI m 28 n k := fun n k => F.2 28 n k (hA _ _ _ (by decide))
  have r29 : ∀ n k, gI m' 29 n k = gI m 29 n k := fun n k => F.2 29 n k (hA _ _ _ (by decide))
  unfold E3 MB MTm MD
  simp only [r24, r27, r28, r29]
  exact ⟨⟨b1, b2⟩, h2, h3, h4, h5⟩
theorem E3.st {m : Mem} {tm : Nat → Int} {D : Dt} {t n k : Nat} {v : Int32} (h : E3 m tm D) (ht : t = 23 ∨ 34 ≤ t) : E3 (sI m t n k v) tm D :=
  h.fr (A := fun t' _ _ => t' = t) (Fr.st rfl) (fun t' n k q z => by omega)
/-- the note's environment -/
def ME (m0 : Mem) (i : Nat) (tm : Nat → Int) (D : Dt) : Prop :=
  E3 m0 tm D ∧ (tmOK tm ∧ DOK D ∧ i < D.1 ∧ D.2.1 i 0 = 1) ∧ gI m0 23 231 44 = iZ i ∧ gI m0 23 231 45 = iZ (3 * wT tm (tm 5) (D.2.1 i)) ∧ gI m0 23 231 46 = iZ (Pk (tm 3) (D.2.1 i) 0).1 ∧ gI m0 23 231 47 = iZ (Pk (tm 3) (D.2.1 i) 1).1 ∧ gI m0 23 231 48 = iZ (Pk (tm 3) (D.2.1 i) 2).1
/-- the state inside a note -/
def MC (m0 m : Mem) (i : Nat) (s : WS) (lf a : Int) (b : Bool) : Prop :=
  (MV m s.1 ∧ gI m 23 231 43 = iZ s.1.length ∧ gI m 23 231 49 = iZ (lastN s) ∧ gI m 23 231 50 = iZ (3 * s.2.2)) ∧ (gI m 23 231 51 = iZ (3 * lf) ∧ gI m 45 253 i = iZ (3 * a) ∧ gI m 23 231 52 = (if b then 1 else 0)) ∧ WOK s ∧ Fr (AM i) m0 m
section MPUTS
variable {m0 m : Mem} {K : Option SV → Mem → Prop} {D : Dt} {tm : Nat → Int} {i : Nat} {s : WS} {lf a : Int} {b : Bool}
theorem nAM {t n k : Nat} (h : t = 24 ∨ t = 27 ∨ t = 28 ∨ t = 29) : ¬ AM i t n k := by unfold AM; omega
theorem MC.e3 (hE : ME m0 i tm D) (hC : MC m0 m i s lf a b) : E3 m tm D := hE.1.fr hC.2.2.2 (fun t n k q => nAM q)
theorem MC.rd {k : Nat} (hC : MC m0 m i s lf a b) (hk : 44 ≤ k ∧ k ≤ 48) : gI m 23 231 k = gI m0 23 231 k := hC.2.2.2.2 23 231 k (by unfold AM; omega)
theorem M_comes {k : Nat} {num c l : Int} {x : Int32} (hx : x = iZ (3 * l)) (hk : gI m 23 231 43 = iZ k) (rk : k < 3600) (hn : gI m 34 242 k = iZ num) (hc : gI m 23 231 50 = iZ (3 * c))
    (h : K none (sI (sI (sI m 23 231 49 (iZ num)) 23 231 50 (iZ (3 * (c + l)))) 23 231 43 (iZ ((k + 1 : Nat) : Int)))) : smC true 192 [vR (some (23, 231)), vI x] m K := by
  subst hx
  refine smC_wp [some (vR (some (23, 231))), some (vI (iZ (3 * l)))] cd_192 [] 40 OK_192 (by decide) rfl rfl (Nat.le_of_ble_eq_true rfl) ?_
  have ec : (iZ (k : Int)).toNatClampNeg = k := by rw [iZ_clamp (by constructor <;> omega)]; omega
  refine And.intro (by rw [hk]; exact (iZ_in (by constructor <;> omega)).mpr (by omega)) ?_
  refine And.intro trivial ?_
  have e1 : gI m 34 242 (gI m 23 231 43).toNatClampNeg = iZ num := by rw [hk, ec]; exact hn
  rw [e1]
  have e2 : gI (sI m 23 231 49 (iZ num)) 23 231 50 + iZ (3 * l) = iZ (3 * (c + l)) := by
    rw [gI_s, if_neg (by omega), hc, iZ_add]; congr 1; omega
  rw [e2]
  have e3 : gI (sI (sI m 23 231 49 (iZ num)) 23 231 50 (iZ (3 * (c + l)))) 23 231 43 + 1 = iZ ((k + 1 : Nat) : Int) := by
    rw [gI_s, if_neg (by omega), gI_s, if_neg (by omega), hk, L1, iZ_add]; congr 1
  rw [e3]
  exact h
def AK (k : Nat) : Nat → Nat → Nat → Prop := fun t _ j => 34 ≤ t ∧ t ≤ 40 ∧ j = k
/-- the row is laid: comes -/
theorem M_tail {m1 : Mem} {kd l : Int} {p : Int × Int} {x : Int32} (hx : x = iZ (3 * l)) (hC : MC m0 m i s lf a b) (hp : okP p) (hl : 1 ≤ l ∧ l ≤ 1000000) (hlen : s.1.length < 3600) (F : Fr (AK s.1.length) m m1) (hr : RowM m1 s.1.length (kd, p.1, p.2, (i : Int), s.2.2, l))
    (h : ∀ m', MC m0 m' i (plN i kd p l s) lf a b → K none m') : smC true 192 [vR (some (23, 231)), vI x] m1 K := by
  have q : ∀ k, gI m1 23 231 k = gI m 23 231 k := fun k => F.2 23 231 k (by unfold AK; omega)
  refine M_comes (num := p.1) (c := s.2.2) hx ((q 43).trans hC.1.2.1) hlen hr.2.1 ((q 50).trans hC.1.2.2.2) (h _ ?_)
  have G : Fr (AM i) m1 (sI (sI (sI m1 23 231 49 (iZ p.1)) 23 231 50 (iZ (3 * (s.2.2 + l)))) 23 231 43 (iZ ((s.1.length + 1 : Nat) : Int))) := ((Fr.st (Or.inl ⟨rfl, rfl, by omega⟩)).tr (Fr.st (Or.inl ⟨rfl, rfl, by omega⟩))).tr (Fr.st (Or.inl ⟨rfl, rfl, by omega⟩))
  have F' : Fr (AM i) m m1 := F.mono (fun t n k z => Or.inr (Or.inl ⟨z.1, z.2.1⟩))
  have g : ∀ t n k, t ≠ 23 → gI (sI (sI (sI m1 23 231 49 (iZ p.1)) 23 231 50 (iZ (3 * (s.2.2 + l)))) 23 231 43 (iZ ((s.1.length + 1 : Nat) : Int))) t n k = gI m1 t n k := by
    intro t n k ht
    rw [gI_s, if_neg (by omega), gI_s, if_neg (by omega), gI_s, if_neg (by omega)]
  refine ⟨⟨⟨?_, ?_⟩, ?_, ?_, ?_⟩, ⟨?_, ?_, ?_⟩, hC.2.2.1.pl hp hl, (hC.2.2.2.tr F').tr G⟩
  · obtain ⟨a1, a2, a3, a4, a5, a6, a7⟩ := hr
    exact ⟨(g _ _ _ (by decide)).trans a1, (g _ _ _ (by decide)).trans a2, (g _ _ _ (by decide)).trans a3, (g _ _ _ (by decide)).trans a4, (g _ _ _ (by decide)).trans a5, (g _ _ _ (by decide)).trans a6, (g _ _ _ (by decide)).trans a7⟩
  · refine MV_keep (fun t n k hk ht => ?_) hC.1.1
    rw [g t n k (by omega)]
    exact F.2 t n k (by unfold AK; omega)
  · simp only [gI_s]; simp [plN]
  · simp only [gI_s]; simp [plN, lastN, ltN]
  · simp only [gI_s]; simp [plN]
  · simp only [gI_s]; simp; exact (q 51).trans hC.2.1.1
  · rw [g _ _ _ (by decide), F.2 45 253 i (by unfold AK; omega)]; exact hC.2.1.2.1
  · simp only [gI_s]; simp; exact (q 52).trans hC.2.1.2.2
theorem M_putsAs {kd l : Int} {p : Int × Int} {x1 x2 x3 x4 x5 : Int32} (h1 : x1 = iZ kd) (h2 : x2 = iZ (p.2 % 7)) (h3 : x3 = iZ (p.2 / 7)) (h4 : x4 = iZ p.1) (h5 : x5 = iZ (3 * l)) (hE : ME m0 i tm D) (hC : MC m0 m i s lf a b) (hp : okP p) (hl : 1 ≤ l ∧ l ≤ 1000000) (hlen : s.1.length < 3600)
    (h : ∀ m', MC m0 m' i (plN i kd p l s) lf a b → K none m') : smC true 191 [vR (some (23, 231)), vI x1, vI x2, vI x3, vI x4, vI x5] m K := by
  subst h1; subst h2; subst h3; subst h4; subst h5
  have ek := hC.1.2.1
  have ec : (iZ (s.1.length : Int)).toNatClampNeg = s.1.length := by rw [iZ_clamp (by constructor <;> omega)]; omega
  have hin : vp_in (iZ (s.1.length : Int)) 3600 := (iZ_in (by constructor <;> omega)).mpr (by omega)
  refine smC_wp [some (vR (some (23, 231))), some (vI (iZ kd)), some (vI (iZ (p.2 % 7))), some (vI (iZ (p.2 / 7))), some (vI (iZ p.1)), some (vI (iZ (3 * l))), none] cd_191 [6] 40 OK_191 (by decide) rfl rfl (Nat.le_of_ble_eq_true rfl) ?_
  refine And.intro trivial ?_
  rw [ek]
  refine wp1_ok (by decide) OK_191 (cc := cd_191) rfl (stops := []) (f := 60) ?_
  refine And.intro hin ?_
  refine And.intro hin ?_
  refine And.intro hin ?_
  refine And.intro hin ?_
  refine And.intro hin ?_
  refine And.intro hin ?_
  refine And.intro hin ?_
  rw [ec]
  refine And.intro trivial (M_tail (kd := kd) (p := p) (l := l) rfl hC hp hl hlen ?_ ?_ (fun m' C' => And.intro trivial (h m' C')))
  · exact ((((((Fr.st ⟨by decide, by decide, rfl⟩).tr (Fr.st ⟨by decide, by decide, rfl⟩)).tr (Fr.st ⟨by decide, by decide, rfl⟩)).tr (Fr.st ⟨by decide, by decide, rfl⟩)).tr (Fr.st ⟨by decide, by decide, rfl⟩)).tr (Fr.st ⟨by decide, by decide, rfl⟩)).tr (Fr.st ⟨by decide, by decide, rfl⟩)
  · refine ⟨?_, ?_, ?_, ?_, ?_, ?_, ?_⟩
    · simp only [gI_s]; simp
    · simp only [gI_s]; simp
    · simp only [gI_s]; simp
    · simp only [gI_s]; simp
    · simp only [gI_s]; simp; exact (hC.rd (by omega)).trans hE.2.2.1
    · simp only [gI_s]; simp; exact hC.1.2.2.2
    · simp only [gI_s]; simp
end MPUTS
