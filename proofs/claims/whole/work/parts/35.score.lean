/-! THE SCORE of the class: tones (the latest first), whether LAST is there, where the next begins -/
abbrev Tn := Int × Int × Int × Int × Int × Int
theorem gI_s (m : Mem) (t n k : Nat) (v : Int32) (t' n' k' : Nat) : gI (sI m t n k v) t' n' k' = if k' = k ∧ n' = n ∧ t' = t then v else gI m t' n' k' := by
  show (if k' = k then (if n' = n then (if t' = t then v else gI m t' n' k') else gI m t' n' k') else gI m t' n' k') = _
  by_cases h1 : k' = k <;> by_cases h2 : n' = n <;> by_cases h3 : t' = t <;> simp [h1, h2, h3]
def RowsOK (m : Mem) (sc a1 a2 a3 a4 r : Nat) : Prop :=
  (gP m 6 sc 2 = some (20, a1) ∧ gP m 6 sc 3 = some (20, a2) ∧ gP m 6 sc 4 = some (20, a3) ∧ gP m 6 sc 5 = some (20, a4)) ∧ (gL m 20 a1 = r ∧ gL m 20 a2 = r ∧ gL m 20 a3 = r ∧ gL m 20 a4 = r) ∧ (a1 ≠ a2 ∧ a1 ≠ a3 ∧ a1 ≠ a4 ∧ a2 ≠ a3 ∧ a2 ≠ a4 ∧ a3 ≠ a4) ∧ r ≤ 3504
def RV (m : Mem) (a1 a2 a3 a4 : Nat) : List Tn → Prop
  | [] => True
  | t :: ts => (gI m 20 a1 ts.length = iZ (pit t.2.1 t.2.2.1) ∧ gI m 20 a2 ts.length = iZ (8 * t.2.2.2.1 + t.1) ∧ gI m 20 a3 ts.length = iZ t.2.2.2.2.1 ∧ gI m 20 a4 ts.length = iZ t.2.2.2.2.2) ∧ RV m a1 a2 a3 a4 ts
def RepB (m : Mem) (sc : Nat) (kp : Bool) (cap : Nat) (ts : List Tn) (cur : Int) : Prop :=
  gI m 6 sc 0 = (if kp then 1 else 0) ∧ gI m 6 sc 1 = iZ ts.length ∧ gI m 6 sc 6 = iZ cur ∧
  (kp = true → ∃ a1 a2 a3 a4 r, RowsOK m sc a1 a2 a3 a4 r ∧ cap ≤ r ∧ RV m a1 a2 a3 a4 ts) ∧ ts.length ≤ cap ∧ cap ≤ 3504
def RepS (m : Mem) (sc : Nat) (kp : Bool) (cap : Nat) (ts : List Tn) (lk : Bool) (cur : Int) : Prop :=
  RepB m sc kp cap ts cur ∧ gI m 6 sc 7 = (if lk then 1 else 0) ∧ ∀ t, ts.head? = some t → gI m 6 sc 8 = iZ (pit t.2.1 t.2.2.1) ∧ gI m 6 sc 9 = iZ t.2.2.2.2.2
/-- what a score's own stores leave as it was -/
def FrS (m m' : Mem) (sc : Nat) (kp : Bool) : Prop :=
  (∀ t, t ≠ 6 → t ≠ 20 → gI m' t = gI m t) ∧ (∀ n, n ≠ sc → gI m' 6 n = gI m 6 n) ∧ (∀ k, k ≠ 1 → k ≠ 6 → k ≠ 7 → k ≠ 8 → k ≠ 9 → gI m' 6 sc k = gI m 6 sc k) ∧ m'.2 = m.2 ∧ (kp = false → gI m' 20 = gI m 20)
theorem FrS.rf (m : Mem) (sc : Nat) (kp : Bool) : FrS m m sc kp := ⟨fun _ _ _ => rfl, fun _ _ => rfl, fun _ _ _ _ _ _ => rfl, rfl, fun _ => rfl⟩
theorem FrS.tr {a b c : Mem} {sc : Nat} {kp : Bool} (h : FrS a b sc kp) (h2 : FrS b c sc kp) : FrS a c sc kp :=
  ⟨fun t x y => (h2.1 t x y).trans (h.1 t x y), fun n x => (h2.2.1 n x).trans (h.2.1 n x), fun k a1 a2 a3 a4 a5 => (h2.2.2.1 k a1 a2 a3 a4 a5).trans (h.2.2.1 k a1 a2 a3 a4 a5), h2.2.2.2.1.trans h.2.2.2.1, fun z => (h2.2.2.2.2 z).trans (h.2.2.2.2 z)⟩
theorem FrS.I6 {m : Mem} {sc k : Nat} {kp : Bool} {v : Int32} (hk : k = 1 ∨ k = 6 ∨ k = 7 ∨ k = 8 ∨ k = 9) : FrS m (sI m 6 sc k v) sc kp := by
  refine ⟨fun t h1 h2 => ?_, fun n h => ?_, fun j h1 h2 h3 h4 h5 => ?_, rfl, fun _ => ?_⟩
  · funext n q; exact gI_sI_t h1
  · funext q; exact gI_sI_n h
  · exact gI_sI_k (by omega)
  · funext n q; exact gI_sI_t (by decide)
theorem FrS.I20 {m : Mem} {sc a k : Nat} {v : Int32} : FrS m (sI m 20 a k v) sc true := by
  refine ⟨fun t h1 h2 => ?_, fun n h => ?_, fun j h1 h2 h3 h4 h5 => ?_, rfl, fun z => by cases z⟩
  · funext n q; exact gI_sI_t h2
  · funext q; exact gI_sI_t (by decide)
  · exact gI_sI_t (by decide)
theorem RV_keep {m m' : Mem} {a1 a2 a3 a4 : Nat} : ∀ {ts : List Tn}, (∀ a k, k < ts.length → gI m' 20 a k = gI m 20 a k) → RV m a1 a2 a3 a4 ts → RV m' a1 a2 a3 a4 ts
  | [], _, _ => trivial
  | t :: ts, h, hr => by
    have hl : ts.length < (t :: ts).length := Nat.lt_succ_self _
    exact ⟨⟨(h a1 _ hl).trans hr.1.1, (h a2 _ hl).trans hr.1.2.1, (h a3 _ hl).trans hr.1.2.2.1, (h a4 _ hl).trans hr.1.2.2.2⟩, RV_keep (fun a k hk => h a k (Nat.lt_succ_of_lt hk)) hr.2⟩
theorem RowsOK.kept {m m' : Mem} {sc a1 a2 a3 a4 r : Nat} (h : m'.2 = m.2) (hr : RowsOK m sc a1 a2 a3 a4 r) : RowsOK m' sc a1 a2 a3 a4 r := by
  have hP : gP m' = gP m := by funext t n k; show m'.2.1 t n k = m.2.1 t n k; rw [h]
  have hL : gL m' = gL m := by funext t n; show m'.2.2.2.1 t n = m.2.2.2.1 t n; rw [h]
  unfold RowsOK
  rw [hP, hL]; exact hr
section SCORE
variable {m : Mem} {K : Option SV → Mem → Prop} {sc cap : Nat} {kp lk : Bool} {ts : List Tn} {cur : Int}
/-- the end of addTone: the counts -/
theorem addTone_end {m0 : Mem} {knd num st note len : Int} {x1 x2 : Int32} (hfr : FrS m m0 sc kp) (hR : RepB m sc kp cap ts cur) (hl : ts.length < cap) (hrow : kp = true → ∃ a1 a2 a3 a4 r, RowsOK m0 sc a1 a2 a3 a4 r ∧ cap ≤ r ∧ RV m0 a1 a2 a3 a4 ((knd, num, st, note, cur, len) :: ts)) (h6 : ∀ k, gI m0 6 sc k = gI m 6 sc k)
    (h : ∀ m', RepS m' sc kp cap ((knd, num, st, note, cur, len) :: ts) true (cur + len) → FrS m m' sc kp → K none m') :
    smE true 44 68 [some (vR (some (6, sc))), some (vI x1), some (vI x2), some (vI (iZ (pit num st))), some (vI (iZ len))] [] m0 K := by
  refine wp_ok (by decide) OK_44 (cc := cd_44) rfl (stops := []) 60 _ _ _ _ ?_
  refine And.intro (Or.inr rfl) ?_
  refine And.intro trivial (h _ ?_ ?_)
  · obtain ⟨r0, r1, r2, r5, r6⟩ := hR
    refine ⟨⟨?_, ?_, ?_, ?_, ?_⟩, ?_, ?_⟩
    · simp [gI_s, h6, r0]
    · simp only [gI_s]; simp [h6, r1]; rw [L1, iZ_add]
    · simp only [gI_s]; simp [h6, r2, iZ_add]
    · intro hk
      obtain ⟨a1, a2, a3, a4, r, q1, q2, q3⟩ := hrow hk
      refine ⟨a1, a2, a3, a4, r, RowsOK.kept rfl q1, q2, RV_keep (fun a k _ => ?_) q3⟩
      simp [gI_s]
    · exact ⟨hl, r6.2⟩
    · simp [gI_s]
    · intro t ht
      simp only [List.head?_cons, Option.some.injEq] at ht
      subst ht
      simp [gI_s]
  · refine hfr.tr ?_
    refine (FrS.I6 (Or.inl rfl)).tr ((FrS.I6 (Or.inr (Or.inl rfl))).tr ((FrS.I6 (Or.inr (Or.inr (Or.inl rfl)))).tr ((FrS.I6 (Or.inr (Or.inr (Or.inr (Or.inl rfl))))).tr (FrS.I6 (Or.inr (Or.inr (Or.inr (Or.inr rfl))))))))
theorem c_addTone {knd num st note len : Int} {xn xk xp xl : Int32} (hn : xn = iZ note) (hk : xk = iZ knd) (hp : xp = iZ (pit num st)) (hl : xl = iZ len) (hR : RepB m sc kp cap ts cur) (hcap : ts.length < cap)
    (h : ∀ m', RepS m' sc kp cap ((knd, num, st, note, cur, len) :: ts) true (cur + len) → FrS m m' sc kp → K none m') : smC true 44 [vR (some (6, sc)), vI xn, vI xk, vI xp, vI xl] m K := by
  subst hn; subst hk; subst hp; subst hl
  refine smC_wp [some (vR (some (6, sc))), some (vI (iZ note)), some (vI (iZ knd)), some (vI (iZ (pit num st))), some (vI (iZ len))] cd_44 [68] 60 OK_44 (by decide) rfl rfl (Nat.le_of_ble_eq_true rfl) ?_
  cases kp with
  | false =>
    refine And.intro (fun _ => ?_) (fun z => absurd hR.1 z)
    exact And.intro trivial (addTone_end (FrS.rf m sc false) hR hcap (fun z => by cases z) (fun _ => rfl) h)
  | true =>
    refine And.intro (fun z => absurd (hR.1.symm.trans z) (by decide)) (fun _ => ?_)
    obtain ⟨a1, a2, a3, a4, r, q1, q2, q3⟩ := hR.2.2.2.1 rfl
    have hcc := hR.2.2.2.2.2
    obtain ⟨⟨p1, p2, p3, p4⟩, ⟨g1, g2, g3, g4⟩, ⟨d1, d2, d3, d4, d5, d6⟩, hr⟩ := id q1
    have e1 := hR.2.1
    have hin : vp_in (iZ ts.length) r := (iZ_in (by constructor <;> omega)).mpr (by omega)
    refine Exists.intro _ (And.intro p1 ?_)
    refine And.intro (fun z => ?_) (fun z => ?_)
    · rw [e1, g1, iZ_nI, iZ_le (by constructor <;> omega) (by constructor <;> omega)] at z
      omega
    · refine Exists.intro _ (And.intro p1 ?_)
      refine And.intro (by rw [e1, g1]; exact hin) ?_
      refine Exists.intro _ (And.intro p2 ?_)
      refine And.intro (by rw [gI_s, if_neg (by simp), e1]; show vp_in _ (gL m 20 a2); rw [g2]; exact hin) ?_
      refine Exists.intro _ (And.intro p3 ?_)
      refine And.intro (by rw [gI_s, if_neg (by simp), gI_s, if_neg (by simp), e1]; show vp_in _ (gL m 20 a3); rw [g3]; exact hin) ?_
      refine Exists.intro _ (And.intro p4 ?_)
      refine And.intro (by rw [gI_s, if_neg (by simp), gI_s, if_neg (by simp), gI_s, if_neg (by simp), e1]; show vp_in _ (gL m 20 a4); rw [g4]; exact hin) ?_
      refine And.intro trivial ?_
      have s620 : ∀ (m : Mem) (n k : Nat) (v : Int32) (n' k' : Nat), gI (sI m 20 n k v) 6 n' k' = gI m 6 n' k' := fun _ _ _ _ _ _ => gI_sI_t (by decide)
      have ei : (iZ ts.length).toNatClampNeg = ts.length := by rw [iZ_clamp (by constructor <;> omega)]; omega
      simp only [s620, e1, ei]
      rw [L8, iZ_mul, iZ_add]
      refine addTone_end (m := m) (FrS.I20.tr (FrS.I20.tr (FrS.I20.tr FrS.I20))) hR hcap (fun _ => ⟨a1, a2, a3, a4, r, RowsOK.kept rfl q1, q2, ⟨⟨?_, ?_, ?_, ?_⟩, RV_keep (fun a k hk => ?_) q3⟩⟩) (fun k => ?_) h
      · simp [gI_s, d1, d2, d3]
      · simp [gI_s, d4, d5, d1.symm]
      · simp only [gI_s]; simp [d6, hR.2.2.1]
      · simp [gI_s]
      · have hk : ¬ k = ts.length := Nat.ne_of_lt hk
        simp [gI_s, hk]
      · simp only [s620]
theorem c_shorten {knd num st note b len d : Int} {x : Int32} (hx : x = iZ d) (hR : RepS m sc kp cap ((knd, num, st, note, b, len) :: ts) lk cur)
    (h : ∀ m', RepS m' sc kp cap ((knd, num, st, note, b, len - d) :: ts) lk (cur - d) → FrS m m' sc kp → K none m') : smC true 45 [vR (some (6, sc)), vI x] m K := by
  subst hx
  refine smC_wp [some (vR (some (6, sc))), some (vI (iZ d))] cd_45 [] 60 OK_45 (by decide) rfl rfl (Nat.le_of_ble_eq_true rfl) ?_
  obtain ⟨⟨r0, r1, r2, r5, r6, r7⟩, r3, r4⟩ := id hR
  have h8 := r4 _ rfl
  have g0 : ∀ (v w : Int32), gI (sI (sI m 6 sc 6 v) 6 sc 9 w) 6 sc 0 = gI m 6 sc 0 := fun v w => by simp [gI_s]
  have hlen : (((knd, num, st, note, b, len) :: ts).length : Int) = (ts.length : Int) + 1 := by simp
  simp only [List.length_cons] at r6
  cases kp with
  | false =>
    refine And.intro (fun _ => ?_) (fun z => absurd ((g0 _ _).trans hR.1.1) z)
    refine And.intro trivial (h _ ⟨⟨?_, ?_, ?_, (fun z => by cases z), r6, r7⟩, ?_, ?_⟩ ((FrS.I6 (Or.inr (Or.inl rfl))).tr (FrS.I6 (Or.inr (Or.inr (Or.inr (Or.inr rfl)))))))
    · simp [gI_s, r0]
    · simp only [gI_s]; simp [r1]
    · simp only [gI_s]; simp [r2, iZ_sub]
    · simp [gI_s, r3]
    · intro t ht
      simp only [List.head?_cons, Option.some.injEq] at ht
      subst ht
      simp only [gI_s]; simp [h8.1, h8.2, iZ_sub]
  | true =>
    refine And.intro (fun z => absurd ((g0 _ _).symm.trans z) (by rw [hR.1.1]; decide)) (fun _ => ?_)
    obtain ⟨a1, a2, a3, a4, r, q1, q2, q3⟩ := r5 rfl
    obtain ⟨⟨p1, p2, p3, p4⟩, ⟨g1, g2, g3, g4⟩, ⟨d1, d2, d3, d4, d5, d6⟩, hr⟩ := id q1
    have e1 : ∀ (v w : Int32), gI (sI (sI m 6 sc 6 v) 6 sc 9 w) 6 sc 1 = iZ (ts.length + 1) := fun v w => by simp only [gI_s]; simp [r1]
    have gl : ∀ (v w : Int32), gL (sI (sI m 6 sc 6 v) 6 sc 9 w) 20 a4 = r := fun _ _ => g4
    refine And.intro (fun z => ?_) (fun _ => ?_)
    · rw [e1, L0, iZ_le (by constructor <;> omega) (by decide)] at z
      omega
    · refine Exists.intro _ (And.intro p4 ?_)
      refine And.intro (fun z => ?_) (fun _ => ?_)
      · rw [e1, gl, iZ_nI, iZ_lt (by constructor <;> omega) (by constructor <;> omega)] at z
        omega
      · refine Exists.intro _ (And.intro p4 ?_)
        have ei : (iZ (ts.length + 1) - 1).toNatClampNeg = ts.length := by rw [L1, iZ_sub, iZ_clamp (by constructor <;> omega)]; omega
        have hin : vp_in (iZ (ts.length + 1) - 1) r := by rw [L1, iZ_sub]; exact (iZ_in (by constructor <;> omega)).mpr (by omega)
        refine And.intro (by rw [e1]; show vp_in _ (gL m 20 a4); rw [g4]; exact hin) ?_
        refine And.intro (by rw [e1]; show vp_in _ (gL m 20 a4); rw [g4]; exact hin) ?_
        refine And.intro trivial ?_
        simp only [e1, ei]
        refine h _ ⟨⟨?_, ?_, ?_, (fun _ => ⟨a1, a2, a3, a4, r, RowsOK.kept rfl q1, q2, ⟨⟨?_, ?_, ?_, ?_⟩, RV_keep (fun a k hk => ?_) q3.2⟩⟩), r6, r7⟩, ?_, ?_⟩ ((FrS.I6 (Or.inr (Or.inl rfl))).tr ((FrS.I6 (Or.inr (Or.inr (Or.inr (Or.inr rfl))))).tr FrS.I20))
        · simp [gI_s, r0]
        · simp only [gI_s]; simp [r1]
        · simp only [gI_s]; simp [r2, iZ_sub]
        · simp only [gI_s]; simp [d3]; exact q3.1.1
        · simp only [gI_s]; simp [d5]; exact q3.1.2.1
        · simp only [gI_s]; simp [d6]; exact q3.1.2.2.1
        · simp only [gI_s]; simp; rw [q3.1.2.2.2, iZ_sub]
        · have hk : ¬ k = ts.length := Nat.ne_of_lt hk
          simp [gI_s, hk]
        · simp [gI_s, r3]
        · intro t ht
          simp only [List.head?_cons, Option.some.injEq] at ht
          subst ht
          simp only [gI_s]; simp [h8.1, h8.2, iZ_sub]
end SCORE
