/-! THE MODEL: writesNote -/
theorem dbl_8 {lim sp pc : Int} : ∀ (f : Nat) (t : Int), t % 8 = 0 → dbl lim sp pc f t % 8 = 0
  | 0, t, h => h
  | f + 1, t, h => by
    unfold dbl
    split
    · exact dbl_8 f (t * 2) (by omega)
    · exact h
theorem wT_8 {tm : Nat → Int} {pc : Int} {f : NF} (ht : tmOK tm) : wT tm pc f % 8 = 0 := by
  unfold wT tnN
  refine dbl_8 16 _ ?_
  rcases ht.2.1 with e | e | e | e <;> rw [e] <;> decide
theorem mul_8 {k T : Int} (h : T % 8 = 0) : k * T % 8 = 0 := by
  have : T = 8 * (T / 8) := by omega
  rw [this, Int.mul_left_comm]
  omega
theorem wP_8 {tm : Nat → Int} {pc : Int} {f : NF} {i : Nat} {s : WS} (ht : tmOK tm) (hf : NOK f) : (f 5 - (wP tm pc f i s).2.2.1) % 8 = 0 := by
  have h16 := hf.2.2.1
  have hT := wT_8 (pc := pc) (f := f) ht
  unfold wP preS
  split
  · show (f 5 - 0) % 8 = 0; omega
  split
  · split
    · show (f 5 - 0) % 8 = 0; omega
    · show (f 5 - apL (f 5)) % 8 = 0
      unfold apL
      split
      · rename_i h3
        have := un3 (by omega) h3
        omega
      · omega
  split
  · split
    · show (f 5 - 0) % 8 = 0; omega
    · split
      · show (f 5 - wT tm pc f) % 8 = 0; omega
      · show (f 5 - 2 * wT tm pc f) % 8 = 0; omega
  split
  · show (f 5 - 0) % 8 = 0; omega
  · show (f 5 - plK (wT tm pc f) (f 5) (f 11).toNat * wT tm pc f) % 8 = 0
    have := mul_8 (k := ((plK (wT tm pc f) (f 5) (f 11).toNat : Nat) : Int)) hT
    omega
section MWN
variable {m0 m : Mem} {K : Option SV → Mem → Prop} {D : Dt} {tm : Nat → Int} {i : Nat} {s : WS} {lf a : Int} {b : Bool}
theorem ME.re {A : Nat → Nat → Nat → Prop} {m1 : Mem} (hE : ME m0 i tm D) (F : Fr A m0 m1) (hA : ∀ t n k, t = 24 ∨ t = 27 ∨ t = 28 ∨ t = 29 → ¬ A t n k) (hB : ∀ k, 44 ≤ k ∧ k ≤ 48 → ¬ A 23 231 k) : ME m1 i tm D := by
  obtain ⟨h1, h2, a4, a5, a6, a7, a8⟩ := hE
  exact ⟨h1.fr F hA, h2, (F.2 _ _ _ (hB 44 (by omega))).trans a4, (F.2 _ _ _ (hB 45 (by omega))).trans a5, (F.2 _ _ _ (hB 46 (by omega))).trans a6, (F.2 _ _ _ (hB 47 (by omega))).trans a7, (F.2 _ _ _ (hB 48 (by omega))).trans a8⟩
theorem MC.re {A : Nat → Nat → Nat → Prop} {m1 : Mem} (hC : MC m0 m i s lf a b) (F : Fr A m m1) (hA : ∀ t n k, t = 23 ∨ 34 ≤ t ∧ t ≤ 40 ∨ t = 45 → ¬ A t n k) : MC m1 m1 i s lf a b := by
  obtain ⟨⟨c1, c2, c3, c4⟩, ⟨d1, d2, d3⟩, w, _⟩ := hC
  have q : ∀ k, gI m1 23 231 k = gI m 23 231 k := fun k => F.2 23 231 k (hA _ _ _ (by omega))
  exact ⟨⟨MV_keep (fun t n k _ ht => F.2 t n k (hA _ _ _ (by omega))) c1, (q _).trans c2, (q _).trans c3, (q _).trans c4⟩, ⟨(q _).trans d1, (F.2 45 253 i (hA _ _ _ (by omega))).trans d2, (q _).trans d3⟩, w, Fr.rf _ _⟩
/-- what the writing of note i may touch -/
def AMN (i : Nat) : Nat → Nat → Nat → Prop := fun t n k => AM i t n k ∨ (t = 23 ∧ n = 231 ∧ 45 ≤ k ∧ k ≤ 48) ∨ (t = 41 ∧ n = 249 ∧ k = i) ∨ (t = 42 ∧ n = 250 ∧ k = i) ∨ (t = 43 ∧ n = 251 ∧ 3 * i ≤ k ∧ k < 3 * i + 3) ∨ (t = 44 ∧ n = 252 ∧ k = i)
/-- what stands in the Model's arrays for note i -/
def MRes (m : Mem) (i : Nat) (f0 n1 : Int) (v : Int × Int × Int) (o a : Int) : Prop :=
  gI m 41 249 i = iZ f0 ∧ gI m 42 250 i = iZ n1 ∧ (gI m 43 251 (3 * i) = iZ v.1 ∧ gI m 43 251 (3 * i + 1) = iZ v.2.1 ∧ gI m 43 251 (3 * i + 2) = iZ v.2.2) ∧ gI m 44 252 i = iZ (3 * o) ∧ gI m 45 253 i = iZ (3 * a)
/-- the tones between the notes -/
def MS (m : Mem) (s : WS) : Prop := (MV m s.1 ∧ gI m 23 231 43 = iZ s.1.length ∧ gI m 23 231 49 = iZ (lastN s)) ∧ WOK s
theorem MC.ms (hC : MC m0 m i s lf a b) : MS m s := ⟨⟨hC.1.1, hC.1.2.1, hC.1.2.2.1⟩, hC.2.2.1⟩
/-- the first stage: the note's numbers -/
theorem wn_1 (hE : E3 m tm D) (htm : tmOK tm) (hD : DOK D) (hi : i < D.1) (hn1 : D.2.1 i 0 = 1) (e44 : gI m 23 231 44 = iZ i) (hS : MS m s) (hcur : s.2.2 = D.2.1 i 4) (h45 : gI m 45 253 i = 0)
    (h : ∀ m1, ME m1 i tm D → MC m1 m1 i s (D.2.1 i 5) 0 false → Fr (AMN i) m m1 → smE true 176 100 [some (vR (some (23, 231))), none] [] m1 K) : smC true 176 [vR (some (23, 231))] m K := by
  have hno := hD.2.1 i hi
  have hkey := hno.2.2.2.2.2.1
  have h3 := htm.2.2.2.1
  have rh : R32 (tm 3) := by constructor <;> omega
  have h5 := htm.2.2.2.2.2.1
  refine smC_wp [some (vR (some (23, 231))), none] cd_176 [100] 90 OK_176 (by decide) rfl rfl (Nat.le_of_ble_eq_true rfl) ?_
  refine And.intro trivial (M_toneOf (i := i) e44 hE.2.1 htm (by omega) hD hE.2.2 hi ?_)
  have E1 := hE.st (t := 23) (n := 231) (k := 45) (v := iZ (3 * wT tm (tm 5) (D.2.1 i))) (Or.inl rfl)
  refine And.intro trivial (M_of (i := i) (w := 3) (by rw [gI_s, if_neg (by omega)]; exact e44) rfl hD E1.2.2 hi (by decide) ?_)
  rw [mw_id (by decide) (by decide)]
  have E2 := E1.st (t := 23) (n := 231) (k := 46) (v := iZ (D.2.1 i 3)) (Or.inl rfl)
  refine And.intro trivial (M_of (i := i) (w := 8) (by simp only [gI_s]; simp; exact e44) rfl hD E2.2.2 hi (by decide) ?_)
  rw [mw_id (by decide) (by decide)]
  refine And.intro trivial (M_upper (i := i) (by simp only [gI_s]; simp; exact e44) rfl hkey E2.1 E2.2.1 rh hD E2.2.2 hi hn1 ?_)
  have E3' := E2.st (t := 23) (n := 231) (k := 47) (v := iZ (Pk (tm 3) (D.2.1 i) 1).1) (Or.inl rfl)
  refine And.intro trivial (M_of (i := i) (w := 8) (by simp only [gI_s]; simp; exact e44) rfl hD E3'.2.2 hi (by decide) ?_)
  rw [mw_id (by decide) (by decide)]
  refine And.intro trivial (M_lower (i := i) (by simp only [gI_s]; simp; exact e44) rfl hkey E3'.1 E3'.2.1 rh hD E3'.2.2 hi hn1 ?_)
  have E4 := E3'.st (t := 23) (n := 231) (k := 48) (v := iZ (Pk (tm 3) (D.2.1 i) 2).1) (Or.inl rfl)
  refine And.intro trivial (M_of (i := i) (w := 4) (by simp only [gI_s]; simp; exact e44) rfl hD E4.2.2 hi (by decide) ?_)
  have E5 := E4.st (t := 23) (n := 231) (k := 50) (v := iZ (3 * D.2.1 i 4)) (Or.inl rfl)
  refine And.intro trivial (M_of (i := i) (w := 5) (by simp only [gI_s]; simp; exact e44) rfl hD E5.2.2 hi (by decide) ?_)
  have E6 := E5.st (t := 23) (n := 231) (k := 51) (v := iZ (3 * D.2.1 i 5)) (Or.inl rfl)
  have E7 := E6.st (t := 23) (n := 231) (k := 52) (v := 0) (Or.inl rfl)
  refine And.intro (Or.inl rfl) ?_
  refine And.intro trivial (h _ ⟨E7, ⟨htm, hD, hi, hn1⟩, ?_, ?_, ?_, ?_, ?_⟩ ⟨⟨?_, ?_, ?_, ?_⟩, ⟨?_, ?_, ?_⟩, hS.2, Fr.rf _ _⟩ ?_)
  · simp only [gI_s]; simp; exact e44
  · simp only [gI_s]; simp
  · simp only [gI_s]; simp; rfl
  · simp only [gI_s]; simp; rfl
  · simp only [gI_s]; simp; rfl
  · refine MV_keep (fun t n k _ ht => ?_) hS.1.1
    have h23 : ¬ t = 23 := by omega
    simp only [gI_s]; simp [h23]
  · simp only [gI_s]; simp; exact hS.1.2.1
  · simp only [gI_s]; simp; exact hS.1.2.2
  · simp only [gI_s]; simp; rw [hcur]; rfl
  · simp only [gI_s]; simp; rfl
  · simp only [gI_s]; simp; exact h45
  · simp only [gI_s]; simp
  · have q2 : ∀ {m : Mem} {k : Nat} {v : Int32}, 45 ≤ k ∧ k ≤ 48 → Fr (AMN i) m (sI m 23 231 k v) := fun hk => Fr.st (Or.inr (Or.inl ⟨rfl, rfl, hk⟩))
    have q1 : ∀ {m : Mem} {k : Nat} {v : Int32}, k = 50 ∨ k = 51 ∨ k = 52 → Fr (AMN i) m (sI m 23 231 k v) := fun hk => Fr.st (Or.inl (Or.inl ⟨rfl, rfl, by omega⟩))
    exact ((((((q2 (by omega)).tr (q2 (by omega))).tr (q2 (by omega))).tr (q2 (by omega))).tr (q1 (by omega))).tr (q1 (by omega))).tr (q1 (by omega))
end MWN
