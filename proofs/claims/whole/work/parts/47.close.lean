/-! closeNote, addRest, clear -/
def vcN (x v : Int) : Int := if v = x then 1 else 0
def AC (sc i : Nat) : Nat → Nat → Nat → Prop := fun t n k => (t = 14 ∧ n = sc + 3 ∧ k = i) ∨ (t = 7 ∧ n = sc + 1 ∧ 3 * i ≤ k ∧ k < 3 * i + 3) ∨ (t = 6 ∧ n = sc ∧ (k = 10 ∨ k = 11))
section CLOSE
variable {m : Mem} {K : Option SV → Mem → Prop} {sc cap i : Nat} {kp lk : Bool} {ts : List Tn} {cur : Int}
theorem c_putV {p : Nat} {v l a : Int} {x y : Int32} (hx : x = iZ p) (hy : y = iZ v) (hp : p < 144) (rv : 0 ≤ v ∧ v ≤ 3) (hl : gI m 6 sc 10 = iZ l) (ha : gI m 6 sc 11 = iZ a)
    (h : ∀ m', m'.2 = m.2 → (∀ t n k, ¬ (t = 7 ∧ n = sc + 1 ∧ k = p) → ¬ (t = 6 ∧ n = sc ∧ (k = 10 ∨ k = 11)) → gI m' t n k = gI m t n k) → gI m' 7 (sc + 1) p = iZ v → gI m' 6 sc 10 = iZ (l + vcN 2 v) → gI m' 6 sc 11 = iZ (a + vcN 3 v) → K none m') : smC true 43 [vR (some (6, sc)), vI x, vI y] m K := by
  subst hx; subst hy
  have ep : (iZ (p : Int)).toNatClampNeg = p := by rw [iZ_clamp (by constructor <;> omega)]; omega
  refine smC_wp [some (vR (some (6, sc))), some (vI (iZ p)), some (vI (iZ v))] cd_43 [] 40 OK_43 (by decide) rfl rfl (Nat.le_of_ble_eq_true rfl) ?_
  refine And.intro ((iZ_in (by constructor <;> omega)).mpr (by show 0 ≤ (p : Int) ∧ (p : Int) < 144; omega)) ?_
  rw [ep]
  refine And.intro (fun z => ?_) (fun z => ?_)
  · rw [L2, iZ_eq (by constructor <;> omega) (by decide)] at z
    have e2 : vcN 2 v = 0 := by unfold vcN; rw [if_neg z]
    refine And.intro (fun y => ?_) (fun y => ?_)
    · rw [L3, iZ_eq (by constructor <;> omega) (by decide)] at y
      have e3 : vcN 3 v = 0 := by unfold vcN; rw [if_neg y]
      refine And.intro trivial (h _ rfl (fun t n k q1 q2 => ?_) ?_ ?_ ?_)
      · rw [gI_s, if_neg (by omega)]
      · rw [gI_s, if_pos ⟨rfl, rfl, rfl⟩]
      · rw [gI_s, if_neg (by omega), hl, e2, Int.add_zero]
      · rw [gI_s, if_neg (by omega), ha, e3, Int.add_zero]
    · rw [L3, iZ_eq (by constructor <;> omega) (by decide)] at y
      have e3 : vcN 3 v = 1 := by unfold vcN; rw [if_pos y]
      refine And.intro trivial (h _ rfl (fun t n k q1 q2 => ?_) ?_ ?_ ?_)
      · rw [gI_s, if_neg (by omega), gI_s, if_neg (by omega)]
      · rw [gI_s, if_neg (by omega), gI_s, if_pos ⟨rfl, rfl, rfl⟩]
      · rw [gI_s, if_neg (by omega), gI_s, if_neg (by omega), hl, e2, Int.add_zero]
      · rw [gI_s, if_pos ⟨rfl, rfl, rfl⟩, gI_s, if_neg (by omega), ha, e3, L1, iZ_add]
  · rw [L2, iZ_eq (by constructor <;> omega) (by decide)] at z
    have e2 : vcN 2 v = 1 := by unfold vcN; rw [if_pos z]
    have e3 : vcN 3 v = 0 := by unfold vcN; rw [if_neg (by omega)]
    refine And.intro trivial (h _ rfl (fun t n k q1 q2 => ?_) ?_ ?_ ?_)
    · rw [gI_s, if_neg (by omega), gI_s, if_neg (by omega)]
    · rw [gI_s, if_neg (by omega), gI_s, if_pos ⟨rfl, rfl, rfl⟩]
    · rw [gI_s, if_pos ⟨rfl, rfl, rfl⟩, gI_s, if_neg (by omega), hl, e2, L1, iZ_add]
    · rw [gI_s, if_neg (by omega), gI_s, if_neg (by omega), ha, e3, Int.add_zero]
theorem c_close {v1 v2 v3 l a n f : Int} {x y1 y2 y3 : Int32} (hx : x = iZ i) (h1 : y1 = iZ v1) (h2 : y2 = iZ v2) (h3 : y3 = iZ v3) (hi : i < 48) (r1 : 0 ≤ v1 ∧ v1 ≤ 3) (r2 : 0 ≤ v2 ∧ v2 ≤ 3) (r3 : 0 ≤ v3 ∧ v3 ≤ 3) (hl : gI m 6 sc 10 = iZ l) (ha : gI m 6 sc 11 = iZ a) (hn : gI m 6 sc 1 = iZ n) (hf : gI m 13 (sc + 2) i = iZ f)
    (h : ∀ m', Fr (AC sc i) m m' → gI m' 14 (sc + 3) i = iZ (n - f) → gI m' 7 (sc + 1) (3 * i) = iZ v1 → gI m' 7 (sc + 1) (3 * i + 1) = iZ v2 → gI m' 7 (sc + 1) (3 * i + 2) = iZ v3 → gI m' 6 sc 10 = iZ (l + (vcN 2 v1 + vcN 2 v2 + vcN 2 v3)) → gI m' 6 sc 11 = iZ (a + (vcN 3 v1 + vcN 3 v2 + vcN 3 v3)) → K none m') : smC true 42 [vR (some (6, sc)), vI x, vI y1, vI y2, vI y3] m K := by
  subst hx
  have ei : (iZ (i : Int)).toNatClampNeg = i := by rw [iZ_clamp (by constructor <;> omega)]; omega
  have hin : vp_in (iZ (i : Int)) 48 := (iZ_in (by constructor <;> omega)).mpr (by omega)
  refine smC_wp [some (vR (some (6, sc))), some (vI (iZ i)), some (vI y1), some (vI y2), some (vI y3)] cd_42 [] 40 OK_42 (by decide) rfl rfl (Nat.le_of_ble_eq_true rfl) ?_
  refine And.intro hin ?_
  refine And.intro hin ?_
  rw [ei, hf, hn, iZ_sub]
  have g6 : ∀ k, gI (sI m 14 (sc + 3) i (iZ (n - f))) 6 sc k = gI m 6 sc k := fun k => by rw [gI_s, if_neg (by omega)]
  refine And.intro trivial (c_putV (p := 3 * i) (by rw [L3, iZ_mul]; congr 1) h1 (by omega) r1 ((g6 10).trans hl) ((g6 11).trans ha) (fun m1 b1 c1 d1 e1 f1 => ?_))
  refine And.intro trivial (c_putV (p := 3 * i + 1) (by rw [L3, iZ_mul, L1, iZ_add]; congr 1) h2 (by omega) r2 e1 f1 (fun m2 b2 c2 d2 e2 f2 => ?_))
  refine And.intro trivial (c_putV (p := 3 * i + 2) (by rw [L3, iZ_mul, L2, iZ_add]; congr 1) h3 (by omega) r3 e2 f2 (fun m3 b3 c3 d3 e3 f3 => ?_))
  refine And.intro trivial (h m3 ⟨b3.trans (b2.trans b1), fun t n k q => ?_⟩ ?_ ?_ ?_ d3 ?_ ?_)
  · unfold AC at q
    rw [c3 t n k (by omega) (by omega), c2 t n k (by omega) (by omega), c1 t n k (by omega) (by omega), gI_s, if_neg (by omega)]
  · rw [c3 _ _ _ (by omega) (by omega), c2 _ _ _ (by omega) (by omega), c1 _ _ _ (by omega) (by omega), gI_s, if_pos ⟨rfl, rfl, rfl⟩]
  · rw [c3 _ _ _ (by omega) (by omega), c2 _ _ _ (by omega) (by omega)]; exact d1
  · rw [c3 _ _ _ (by omega) (by omega)]; exact d2
  · rw [e3]; congr 1; omega
  · rw [f3]; congr 1; omega
theorem c_addRest {l : Int} {x : Int32} (hx : x = iZ l) (hR : RepS m sc kp cap ts lk cur) (h : ∀ m', RepS m' sc kp cap ts false (cur + l) → FrS m m' sc kp → K none m') : smC true 41 [vR (some (6, sc)), vI x] m K := by
  subst hx
  refine smC_wp [some (vR (some (6, sc))), some (vI (iZ l))] cd_41 [] 40 OK_41 (by decide) rfl rfl (Nat.le_of_ble_eq_true rfl) ?_
  refine And.intro (Or.inl rfl) ?_
  refine And.intro trivial (h _ ?_ ((FrS.I6 (Or.inr (Or.inl rfl))).tr (FrS.I6 (Or.inr (Or.inr (Or.inl rfl))))))
  obtain ⟨⟨r0, r1, r2, r3, r4⟩, r5, r6⟩ := hR
  refine ⟨⟨?_, ?_, ?_, ?_, r4⟩, ?_, fun t ht => ?_⟩
  · simp [gI_s, r0]
  · simp only [gI_s]; simp [r1]
  · simp only [gI_s]; simp [r2, iZ_add]
  · intro hk
    obtain ⟨a1, a2, a3, a4, r, q1, q2, q3⟩ := r3 hk
    exact ⟨a1, a2, a3, a4, r, RowsOK.kept rfl q1, q2, RV_keep (fun x k _ => by simp [gI_s]) q3⟩
  · simp [gI_s]
  · simp only [gI_s]; simp [r6 t ht]
theorem c_clear (h0 : gI m 6 sc 0 = (if kp then 1 else 0)) (hG : kp = true → ∃ a1 a2 a3 a4 r, RowsOK m sc a1 a2 a3 a4 r)
    (h : ∀ m', RepS m' sc kp 0 [] false 0 → (gI m' 6 sc 10 = iZ 0 ∧ gI m' 6 sc 11 = iZ 0) → Fr (fun t n k => t = 6 ∧ n = sc ∧ (k = 1 ∨ k = 6 ∨ k = 7 ∨ k = 10 ∨ k = 11)) m m' → K none m') : smC true 39 [vR (some (6, sc))] m K := by
  refine smC_wp [some (vR (some (6, sc)))] cd_39 [] 40 OK_39 (by decide) rfl rfl (Nat.le_of_ble_eq_true rfl) ?_
  refine And.intro (Or.inl rfl) ?_
  refine And.intro trivial (h _ ⟨⟨?_, ?_, ?_, ?_, by simp⟩, ?_, fun t ht => by simp at ht⟩ ⟨?_, ?_⟩ ?_)
  · simp only [gI_s]; simp [h0]
  · simp only [gI_s]; simp [L0]
  · simp only [gI_s]; simp [L0]
  · intro hk
    obtain ⟨a1, a2, a3, a4, r, q1⟩ := hG hk
    exact ⟨a1, a2, a3, a4, r, RowsOK.kept rfl q1, Nat.zero_le _, trivial⟩
  · simp only [gI_s]; simp
  · simp only [gI_s]; simp [L0]
  · simp only [gI_s]; simp [L0]
  · refine (Fr.st ?_).tr ((Fr.st ?_).tr ((Fr.st ?_).tr ((Fr.st ?_).tr (Fr.st ?_)))) <;> simp
end CLOSE
