/-! THE MODEL: puts, graces -/
section MPUTS2
variable {m0 m : Mem} {K : Option SV → Mem → Prop} {D : Dt} {tm : Nat → Int} {i : Nat} {s : WS} {lf a : Int} {b : Bool}
theorem nStep_lo {f : NF} (h : 0 ≤ f 1 ∧ f 1 ≤ 6) : nStep f % 7 = f 1 ∧ nStep f / 7 = f 2 := by unfold nStep; omega
theorem M_puts {kd l : Int} {x1 x2 : Int32} (h1 : x1 = iZ kd) (h2 : x2 = iZ (3 * l)) (hk : kd = 0 ∨ kd = 1 ∨ kd = 2 ∨ kd = 4) (hE : ME m0 i tm D) (hC : MC m0 m i s lf a b) (hl : 1 ≤ l ∧ l ≤ 1000000) (hlen : s.1.length < 3600)
    (h : ∀ m', MC m0 m' i (plN i kd (Pk (tm 3) (D.2.1 i) kd) l s) lf a b → K none m') : smC true 194 [vR (some (23, 231)), vI x1, vI x2] m K := by
  subst h1; subst h2
  obtain ⟨he, ⟨htm, hD, hi, hn1⟩, e44, e45, e46, e47, e48⟩ := id hE
  have hno := hD.2.1 i hi
  have hok := Pk_ok (hold := tm 3) hno hn1
  have hlt := (hno.2.2.2.2.2.2.2.2.2.2.2 hn1).1.1
  have hst := nStep_lo hlt
  have h3 := htm.2.2.2.1
  have hP : okP (Pk (tm 3) (D.2.1 i) kd) := by
    rcases hk with rfl | rfl | rfl | rfl
    · exact hok.1.1
    · exact hok.1.2.1
    · exact hok.1.2.2.1
    · exact hok.1.2.2.2
  have ek := hC.1.2.1
  have ec : (iZ (s.1.length : Int)).toNatClampNeg = s.1.length := by rw [iZ_clamp (by constructor <;> omega)]; omega
  have hin : vp_in (iZ (s.1.length : Int)) 3600 := (iZ_in (by constructor <;> omega)).mpr (by omega)
  have ee : ∀ {m1 : Mem}, Fr (AK s.1.length) m m1 → E3 m1 tm D := fun F => (MC.e3 hE hC).fr F (fun t n k q z => by unfold AK at z; omega)
  have e23 : ∀ {m1 : Mem} (k : Nat), Fr (AK s.1.length) m m1 → gI m1 23 231 k = gI m 23 231 k := fun k F => F.2 23 231 k (by unfold AK; omega)
  have now : ∀ {m1 : Mem}, Fr (AK s.1.length) m m1 → gI m1 23 231 44 = iZ i := fun F => ((e23 44 F).trans (hC.rd (by omega))).trans e44
  have fin : ∀ m1, Fr (AK s.1.length) m m1 → gI m1 35 243 s.1.length = iZ kd → gI m1 34 242 s.1.length = iZ (Pk (tm 3) (D.2.1 i) kd).1 → gI m1 37 245 s.1.length = iZ ((Pk (tm 3) (D.2.1 i) kd).2 % 7) → gI m1 36 244 s.1.length = iZ i → gI m1 39 247 s.1.length = iZ (3 * s.2.2) → gI m1 40 248 s.1.length = iZ (3 * l) →
      smE true 194 199 [some (vR (some (23, 231))), some (vI (iZ kd)), some (vI (iZ (3 * l))), some (vI (iZ s.1.length))] [vI (iZ ((Pk (tm 3) (D.2.1 i) kd).2 / 7)), vI (iZ s.1.length), vR (some (38, 246))] m1 K := by
    intro m1 F q1 q2 q3 q4 q5 q6
    refine wp_ok (by decide) OK_194 (cc := cd_194) rfl (stops := []) 30 _ _ _ _ ?_
    refine And.intro hin ?_
    rw [ec]
    refine And.intro trivial (M_tail (kd := kd) (p := Pk (tm 3) (D.2.1 i) kd) (l := l) rfl hC hP hl hlen (F.tr (Fr.st ⟨by decide, by decide, rfl⟩)) ⟨?_, ?_, ?_, ?_, ?_, ?_, ?_⟩ (fun m' C' => And.intro trivial (h m' C')))
    · simp only [gI_s]; simp; exact q1
    · simp only [gI_s]; simp; exact q2
    · simp only [gI_s]; simp; exact q3
    · simp only [gI_s]; simp
    · simp only [gI_s]; simp; exact q4
    · simp only [gI_s]; simp; exact q5
    · simp only [gI_s]; simp; exact q6
  have oct : ∀ m1, Fr (AK s.1.length) m m1 → gI m1 35 243 s.1.length = iZ kd → gI m1 34 242 s.1.length = iZ (Pk (tm 3) (D.2.1 i) kd).1 → gI m1 36 244 s.1.length = iZ i → gI m1 39 247 s.1.length = iZ (3 * s.2.2) → gI m1 40 248 s.1.length = iZ (3 * l) →
      smE true 194 143 [some (vR (some (23, 231))), some (vI (iZ kd)), some (vI (iZ (3 * l))), some (vI (iZ s.1.length))] [vI (iZ ((Pk (tm 3) (D.2.1 i) kd).2 % 7)), vI (iZ s.1.length), vR (some (37, 245))] m1 K := by
    intro m1 F q1 q2 q4 q5 q6
    have F2 : Fr (AK s.1.length) m (sI m1 37 245 s.1.length (iZ ((Pk (tm 3) (D.2.1 i) kd).2 % 7))) := F.tr (Fr.st ⟨by decide, by decide, rfl⟩)
    have g2 := fin _ F2 (by simp only [gI_s]; simp; exact q1) (by simp only [gI_s]; simp; exact q2) (by simp only [gI_s]; simp) (by simp only [gI_s]; simp; exact q4) (by simp only [gI_s]; simp; exact q5) (by simp only [gI_s]; simp; exact q6)
    have n2 := now F2
    have E2 := ee F2
    refine wp_ok (by decide) OK_194 (cc := cd_194) rfl (stops := [144]) 30 _ _ _ _ ?_
    refine And.intro hin ?_
    refine And.intro trivial ?_
    rw [ec]
    generalize sI m1 37 245 s.1.length (iZ ((Pk (tm 3) (D.2.1 i) kd).2 % 7)) = m2 at *
    refine wp1_ok (by decide) OK_194 (cc := cd_194) rfl (stops := [199]) (f := 40) ?_
    rcases hk with rfl | rfl | rfl | rfl
    · refine And.intro (fun z => absurd rfl z) (fun _ => ?_)
      refine And.intro trivial (M_of (w := 2) n2 rfl hD E2.2.2 hi (by decide) ?_)
      rw [mw_id (by decide) (by decide)]
      refine And.intro trivial ?_
      rw [← hst.2]; exact g2
    · refine And.intro (fun _ => ?_) (fun z => absurd z (by decide))
      refine And.intro (fun z => absurd rfl z) (fun _ => ?_)
      refine And.intro trivial (M_upOctave n2 hD E2.2.2 hi hn1 ?_)
      exact And.intro trivial g2
    · refine And.intro (fun _ => ?_) (fun z => absurd z (by decide))
      refine And.intro (fun _ => ?_) (fun z => absurd z (by decide))
      refine And.intro (fun z => absurd rfl z) (fun _ => ?_)
      refine And.intro trivial (M_downOctave (b := 1) n2 rfl (by decide) hD E2.2.2 hi hn1 ?_)
      exact And.intro trivial g2
    · refine And.intro (fun _ => ?_) (fun z => absurd z (by decide))
      refine And.intro (fun _ => ?_) (fun z => absurd z (by decide))
      refine And.intro (fun _ => ?_) (fun z => absurd z (by decide))
      refine And.intro trivial (M_downOctave (b := 2) n2 rfl (by decide) hD E2.2.2 hi hn1 ?_)
      exact And.intro trivial g2
  have let0 : ∀ m1, Fr (AK s.1.length) m m1 → gI m1 35 243 s.1.length = iZ kd → gI m1 36 244 s.1.length = iZ i → gI m1 39 247 s.1.length = iZ (3 * s.2.2) → gI m1 40 248 s.1.length = iZ (3 * l) →
      smE true 194 87 [some (vR (some (23, 231))), some (vI (iZ kd)), some (vI (iZ (3 * l))), some (vI (iZ s.1.length))] [vI (iZ (Pk (tm 3) (D.2.1 i) kd).1), vI (iZ s.1.length), vR (some (34, 242))] m1 K := by
    intro m1 F q1 q4 q5 q6
    have F2 : Fr (AK s.1.length) m (sI m1 34 242 s.1.length (iZ (Pk (tm 3) (D.2.1 i) kd).1)) := F.tr (Fr.st ⟨by decide, by decide, rfl⟩)
    have g2 := oct _ F2 (by simp only [gI_s]; simp; exact q1) (by simp only [gI_s]; simp) (by simp only [gI_s]; simp; exact q4) (by simp only [gI_s]; simp; exact q5) (by simp only [gI_s]; simp; exact q6)
    have n2 := now F2
    have E2 := ee F2
    refine wp_ok (by decide) OK_194 (cc := cd_194) rfl (stops := [88]) 30 _ _ _ _ ?_
    refine And.intro hin ?_
    refine And.intro trivial ?_
    rw [ec]
    generalize sI m1 34 242 s.1.length (iZ (Pk (tm 3) (D.2.1 i) kd).1) = m2 at *
    refine wp1_ok (by decide) OK_194 (cc := cd_194) rfl (stops := [143]) (f := 40) ?_
    rcases hk with rfl | rfl | rfl | rfl
    · refine And.intro (fun z => absurd rfl z) (fun _ => ?_)
      refine And.intro trivial (M_of (w := 1) n2 rfl hD E2.2.2 hi (by decide) ?_)
      rw [mw_id (by decide) (by decide)]
      refine And.intro trivial ?_
      rw [← hst.1]; exact g2
    · refine And.intro (fun _ => ?_) (fun z => absurd z (by decide))
      refine And.intro (fun z => absurd rfl z) (fun _ => ?_)
      refine And.intro trivial (M_upLetter n2 hD E2.2.2 hi hn1 ?_)
      exact And.intro trivial g2
    · refine And.intro (fun _ => ?_) (fun z => absurd z (by decide))
      refine And.intro (fun _ => ?_) (fun z => absurd z (by decide))
      refine And.intro (fun z => absurd rfl z) (fun _ => ?_)
      refine And.intro trivial (M_downLetter (b := 1) n2 rfl (by decide) hD E2.2.2 hi hn1 ?_)
      exact And.intro trivial g2
    · refine And.intro (fun _ => ?_) (fun z => absurd z (by decide))
      refine And.intro (fun _ => ?_) (fun z => absurd z (by decide))
      refine And.intro (fun _ => ?_) (fun z => absurd z (by decide))
      refine And.intro trivial (M_downLetter (b := 2) n2 rfl (by decide) hD E2.2.2 hi hn1 ?_)
      exact And.intro trivial g2
  refine smC_wp [some (vR (some (23, 231))), some (vI (iZ kd)), some (vI (iZ (3 * l))), none] cd_194 [5] 40 OK_194 (by decide) rfl rfl (Nat.le_of_ble_eq_true rfl) ?_
  refine And.intro trivial ?_
  rw [ek]
  refine wp1_ok (by decide) OK_194 (cc := cd_194) rfl (stops := [39]) (f := 40) ?_
  refine And.intro hin ?_
  refine And.intro hin ?_
  refine And.intro hin ?_
  refine And.intro hin ?_
  refine And.intro trivial ?_
  rw [ec]
  have F1 : Fr (AK s.1.length) m (sI (sI (sI (sI m 35 243 s.1.length (iZ kd)) 36 244 s.1.length (gI (sI m 35 243 s.1.length (iZ kd)) 23 231 44)) 39 247 s.1.length (gI (sI (sI m 35 243 s.1.length (iZ kd)) 36 244 s.1.length (gI (sI m 35 243 s.1.length (iZ kd)) 23 231 44)) 23 231 50)) 40 248 s.1.length (iZ (3 * l))) := (((Fr.st ⟨by decide, by decide, rfl⟩).tr (Fr.st ⟨by decide, by decide, rfl⟩)).tr (Fr.st ⟨by decide, by decide, rfl⟩)).tr (Fr.st ⟨by decide, by decide, rfl⟩)
  have g1 := let0 _ F1 (by simp only [gI_s]; simp) (by simp only [gI_s]; simp; exact (hC.rd (by omega)).trans e44) (by simp only [gI_s]; simp; exact hC.1.2.2.2) (by simp only [gI_s]; simp)
  have n1 := now F1
  have E1 := ee F1
  have r46 := ((e23 46 F1).trans (hC.rd (by omega))).trans e46
  have r47 := ((e23 47 F1).trans (hC.rd (by omega))).trans e47
  have r48 := ((e23 48 F1).trans (hC.rd (by omega))).trans e48
  generalize sI (sI (sI (sI m 35 243 s.1.length (iZ kd)) 36 244 s.1.length (gI (sI m 35 243 s.1.length (iZ kd)) 23 231 44)) 39 247 s.1.length (gI (sI (sI m 35 243 s.1.length (iZ kd)) 36 244 s.1.length (gI (sI m 35 243 s.1.length (iZ kd)) 23 231 44)) 23 231 50)) 40 248 s.1.length (iZ (3 * l)) = m1 at *
  refine wp1_ok (by decide) OK_194 (cc := cd_194) rfl (stops := [87]) (f := 40) ?_
  rcases hk with rfl | rfl | rfl | rfl
  · refine And.intro (fun z => absurd rfl z) (fun _ => ?_)
    refine And.intro trivial ?_
    rw [r46]; exact g1
  · refine And.intro (fun _ => ?_) (fun z => absurd z (by decide))
    refine And.intro (fun z => absurd rfl z) (fun _ => ?_)
    refine And.intro trivial ?_
    rw [r47]; exact g1
  · refine And.intro (fun _ => ?_) (fun z => absurd z (by decide))
    refine And.intro (fun _ => ?_) (fun z => absurd z (by decide))
    refine And.intro (fun z => absurd rfl z) (fun _ => ?_)
    refine And.intro trivial ?_
    rw [r48]; exact g1
  · refine And.intro (fun _ => ?_) (fun z => absurd z (by decide))
    refine And.intro (fun _ => ?_) (fun z => absurd z (by decide))
    refine And.intro (fun _ => ?_) (fun z => absurd z (by decide))
    refine And.intro trivial (M_lowest n1 E1.1 E1.2.1 (by constructor <;> omega) hD E1.2.2 hi hn1 ?_)
    exact And.intro trivial g1
theorem nGr_ok {f : NF} {j : Nat} (h : tnOK (f (18 + j)) (f (22 + j)) (f (26 + j))) : okP (nGr f j) ∧ (nGr f j).2 % 7 = f (18 + j) ∧ (nGr f j).2 / 7 = f (22 + j) := by
  have hb := bsN_rng ((7 * f (22 + j) + f (18 + j)) % 7) (m7 _)
  have hn : natN (7 * f (22 + j) + f (18 + j)) = 12 * (f (22 + j) + 1) + bsN ((7 * f (22 + j) + f (18 + j)) % 7) := by unfold natN; rw [show (7 * f (22 + j) + f (18 + j)) / 7 = f (22 + j) by omega]
  unfold nGr okP
  simp only
  omega
/-- graces j .. j + n -/
theorem M_graces {l : Int} {x1 x2 x3 : Int32} {j n : Nat} (h1 : x1 = iZ j) (h2 : x2 = iZ ((j + n : Nat) : Int)) (h3 : x3 = iZ (3 * l)) (hE : ME m0 i tm D) (hjn : j + n ≤ 4) (hg : ∀ q, j ≤ q → q < j + n → q < ngr (D.2.1 i)) (hl : 1 ≤ n → 1 ≤ l ∧ l ≤ 1000000) (hC : MC m0 m i s lf a b) (hlen : s.1.length + n ≤ 3600)
    (h : ∀ m', MC m0 m' i (apN i (grQ (nGr (D.2.1 i)) l j n) s) lf a b → K none m') : smC true 190 [vR (some (23, 231)), vI x1, vI x2, vI x3] m K := by
  subst h1; subst h2; subst h3
  obtain ⟨he, ⟨htm, hD, hi, hn1⟩, e44, e45, e46, e47, e48⟩ := id hE
  have hno := hD.2.1 i hi
  have hgr := (hno.2.2.2.2.2.2.2.2.2.2.2 hn1).2.2
  have loop : ∀ (n j : Nat) (s : WS) (m : Mem) (e y : Nat), e = j + n → j + n ≤ 4 → (1 ≤ n → 1 ≤ l ∧ l ≤ 1000000) → (∀ q, j ≤ q → q < j + n → q < ngr (D.2.1 i)) → MC m0 m i s lf a b → s.1.length + n ≤ 3600 → (∀ m', MC m0 m' i (apN i (grQ (nGr (D.2.1 i)) l j n) s) lf a b → K none m') →
      smE true 190 3 [some (vR (some (23, 231))), some (vI (iZ y)), some (vI (iZ (e : Int))), some (vI (iZ (3 * l))), some (vI (iZ j))] [] m K := by
    intro n
    induction n with
    | zero =>
      intro j s m e y he hjn _ hg hC hlen h
      refine wp1_ok (by decide) OK_190 (cc := cd_190) rfl (stops := [3]) (f := 30) ?_
      refine And.intro (fun _ => And.intro trivial (h m hC)) (fun z => ?_)
      rw [iZ_le (by constructor <;> omega) (by constructor <;> omega)] at z
      omega
    | succ n ih =>
      intro j s m e y he hjn hl hg hC hlen h
      have hM := (MC.e3 hE hC).2.2
      have now : gI m 23 231 44 = iZ i := (hC.rd (by omega)).trans e44
      have g := nGr_ok (hgr j (hg j (Nat.le_refl _) (by omega)))
      refine wp1_ok (by decide) OK_190 (cc := cd_190) rfl (stops := [3]) (f := 40) ?_
      refine And.intro (fun z => ?_) (fun z => ?_)
      · rw [iZ_le (by constructor <;> omega) (by constructor <;> omega)] at z
        omega
      refine And.intro trivial (M_of (i := i) (w := 18 + j) now (by rw [L18, iZ_add]; congr 1) hD hM hi (by omega) ?_)
      rw [mw_id (by omega) (by omega)]
      refine And.intro trivial (M_of (i := i) (w := 22 + j) now (by rw [L22, iZ_add]; congr 1) hD hM hi (by omega) ?_)
      rw [mw_id (by omega) (by omega)]
      refine And.intro trivial (M_of (i := i) (w := 26 + j) now (by rw [L26, iZ_add]; congr 1) hD hM hi (by omega) ?_)
      rw [mw_id (by omega) (by omega)]
      refine And.intro trivial (M_putsAs (kd := 3) (p := nGr (D.2.1 i) j) (l := l) rfl (by rw [g.2.1]) (by rw [g.2.2]) rfl rfl hE hC g.1 (hl (by omega)) (by omega) (fun m' C' => ?_))
      refine And.intro trivial ?_
      rw [L1, iZ_add]
      refine ih (j + 1) _ m' e y (by omega) (by omega) (fun _ => hl (by omega)) (fun q q1 q2 => hg q (by omega) (by omega)) C' ?_ (fun m2 C2 => h m2 C2)
      show (s.1.length + 1) + n ≤ 3600
      omega
  refine smC_wp [some (vR (some (23, 231))), some (vI (iZ j)), some (vI (iZ ((j + n : Nat) : Int))), some (vI (iZ (3 * l))), none] cd_190 [3] 40 OK_190 (by decide) rfl rfl (Nat.le_of_ble_eq_true rfl) ?_
  exact And.intro trivial (loop n j s m (j + n) j rfl hjn hl hg hC hlen h)
end MPUTS2
