/-! THE CLASS's reader: a note is cleared, filled, added -/
section CADD
variable {m : Mem} {K : Option SV → Mem → Prop} {tp : Nat → Int} {n sn nn : Nat} {p : PS}
theorem c_putBody {kd bh : Int} {x : Int32} (hx : x = iZ kd) (rk : R32 kd) (rb : R32 bh) (e12 : gI m 8 nn 12 = iZ bh)
    (h : ∀ m', gI m' 8 nn 9 = iZ kd → gI m' 8 nn 10 = iZ 2 → gI m' 8 nn 11 = iZ 2 → gI m' 8 nn 12 = iZ (if bh = 1 ∧ ¬ (kd = 1 ∨ kd = 8) then 0 else bh) → Fr (fun t n k => t = 8 ∧ n = nn ∧ (k = 9 ∨ k = 10 ∨ k = 11 ∨ k = 12)) m m' → K none m') : smC true 2 [vR (some (8, nn)), vI x] m K := by
  subst hx
  refine smC_wp [some (vR (some (8, nn))), some (vI (iZ kd))] cd_2 [15] 40 OK_2 (by decide) rfl rfl (Nat.le_of_ble_eq_true rfl) ?_
  refine And.intro trivial ?_
  have F1 : Fr (fun t n k => t = 8 ∧ n = nn ∧ (k = 9 ∨ k = 10 ∨ k = 11 ∨ k = 12)) m (sI (sI (sI m 8 nn 9 (iZ kd)) 8 nn 10 2) 8 nn 11 2) := ((Fr.st ⟨rfl, rfl, by omega⟩).tr (Fr.st ⟨rfl, rfl, by omega⟩)).tr (Fr.st ⟨rfl, rfl, by omega⟩)
  have a9 : gI (sI (sI (sI m 8 nn 9 (iZ kd)) 8 nn 10 2) 8 nn 11 2) 8 nn 9 = iZ kd := by simp only [gI_s]; simp
  have a10 : gI (sI (sI (sI m 8 nn 9 (iZ kd)) 8 nn 10 2) 8 nn 11 2) 8 nn 10 = iZ 2 := by simp only [gI_s]; simp; rfl
  have a11 : gI (sI (sI (sI m 8 nn 9 (iZ kd)) 8 nn 10 2) 8 nn 11 2) 8 nn 11 = iZ 2 := by simp only [gI_s]; simp; rfl
  have a12 : gI (sI (sI (sI m 8 nn 9 (iZ kd)) 8 nn 10 2) 8 nn 11 2) 8 nn 12 = iZ bh := by simp only [gI_s]; simp; exact e12
  generalize sI (sI (sI m 8 nn 9 (iZ kd)) 8 nn 10 2) 8 nn 11 2 = m1 at *
  refine wp1_ok (by decide) OK_2 (cc := cd_2) rfl (stops := []) (f := 40) ?_
  refine And.intro (fun z => ?_) (fun z => ?_)
  · rw [a12, L1, iZ_eq rb (by decide)] at z
    rw [if_neg (fun w => z w.1)] at h
    exact And.intro trivial (h m1 a9 a10 a11 a12 F1)
  rw [a12, L1, iZ_eq rb (by decide)] at z
  refine And.intro trivial (c_takesAfterbeat rk (fun w => ?_) (fun w => ?_))
  · refine And.intro (fun _ => ?_) (fun y => absurd y (by decide))
    rw [if_neg (fun u => u.2 w)] at h
    exact And.intro trivial (h m1 a9 a10 a11 a12 F1)
  · refine And.intro (fun y => absurd rfl y) (fun _ => ?_)
    rw [if_pos ⟨z, w⟩] at h
    refine And.intro trivial (h _ ?_ ?_ ?_ ?_ (F1.tr (Fr.st ⟨rfl, rfl, by omega⟩)))
    · rw [gI_s, if_neg (by omega)]; exact a9
    · rw [gI_s, if_neg (by omega)]; exact a10
    · rw [gI_s, if_neg (by omega)]; exact a11
    · rw [gI_s, if_pos ⟨rfl, rfl, rfl⟩]; rfl
theorem c_clearN (h : ∀ m', gI m' 8 nn 0 = iZ (-1) → gI m' 8 nn 6 = iZ 0 → gI m' 8 nn 7 = iZ 0 → gI m' 8 nn 9 = iZ 0 → gI m' 8 nn 10 = iZ 2 → gI m' 8 nn 11 = iZ 2 → gI m' 8 nn 12 = iZ 0 → Fr (fun t n _ => t = 8 ∧ n = nn) m m' → K none m') : smC true 1 [vR (some (8, nn))] m K := by
  refine smC_wp [some (vR (some (8, nn)))] cd_1 [25] 40 OK_1 (by decide) rfl rfl (Nat.le_of_ble_eq_true rfl) ?_
  refine And.intro trivial ?_
  have F1 : Fr (fun t n _ => t = 8 ∧ n = nn) m (sI (sI (sI (sI (sI m 8 nn 0 (-1)) 8 nn 2 0) 8 nn 6 0) 8 nn 7 0) 8 nn 12 0) := ((((Fr.st ⟨rfl, rfl⟩).tr (Fr.st ⟨rfl, rfl⟩)).tr (Fr.st ⟨rfl, rfl⟩)).tr (Fr.st ⟨rfl, rfl⟩)).tr (Fr.st ⟨rfl, rfl⟩)
  have a0 : gI (sI (sI (sI (sI (sI m 8 nn 0 (-1)) 8 nn 2 0) 8 nn 6 0) 8 nn 7 0) 8 nn 12 0) 8 nn 0 = iZ (-1) := by simp only [gI_s]; simp; rfl
  have a6 : gI (sI (sI (sI (sI (sI m 8 nn 0 (-1)) 8 nn 2 0) 8 nn 6 0) 8 nn 7 0) 8 nn 12 0) 8 nn 6 = iZ 0 := by simp only [gI_s]; simp; rfl
  have a7 : gI (sI (sI (sI (sI (sI m 8 nn 0 (-1)) 8 nn 2 0) 8 nn 6 0) 8 nn 7 0) 8 nn 12 0) 8 nn 7 = iZ 0 := by simp only [gI_s]; simp; rfl
  have a12 : gI (sI (sI (sI (sI (sI m 8 nn 0 (-1)) 8 nn 2 0) 8 nn 6 0) 8 nn 7 0) 8 nn 12 0) 8 nn 12 = iZ 0 := by simp only [gI_s]; simp; rfl
  generalize sI (sI (sI (sI (sI m 8 nn 0 (-1)) 8 nn 2 0) 8 nn 6 0) 8 nn 7 0) 8 nn 12 0 = m1 at *
  refine wp1_ok (by decide) OK_1 (cc := cd_1) rfl (stops := []) (f := 40) ?_
  refine And.intro trivial (c_putBody (kd := 0) (bh := 0) rfl (by decide) (by decide) a12 (fun m2 b9 b10 b11 b12 F2 => ?_))
  exact And.intro trivial (h m2 ((F2.2 _ _ _ (by omega)).trans a0) ((F2.2 _ _ _ (by omega)).trans a6) ((F2.2 _ _ _ (by omega)).trans a7) b9 b10 b11 b12 (F1.tr (F2.mono (fun t n k z => ⟨z.1, z.2.1⟩))))
theorem c_holdSigns {told : Nat → Int} {num st : Int} (hto : CTo m told) (e0 : gI m 8 nn 0 = iZ (pit num st)) (rs : 0 ≤ st ∧ st < 63) (rn : 0 ≤ num ∧ num < 200)
    (h : ∀ m', gI m' 8 nn 13 = iZ (tldN told (st + 1)) → gI m' 8 nn 14 = iZ (tldN told (st - 1)) → gI m' 8 nn 15 = iZ (tldN told (st - 2)) → Fr (fun t n k => t = 8 ∧ n = nn ∧ (k = 13 ∨ k = 14 ∨ k = 15)) m m' → K none m') : smC true 23 [vR (some (1, 1)), vR (some (8, nn))] m K := by
  refine smC_wp [some (vR (some (1, 1))), some (vR (some (8, nn))), none] cd_23 [] 60 OK_23 (by decide) rfl rfl (Nat.le_of_ble_eq_true rfl) ?_
  refine And.intro trivial (c_step e0 (by omega) (by omega) ?_)
  refine And.intro trivial (c_toldSign (told := told) (s := st + 1) (by rw [L1, iZ_add]) (by constructor <;> omega) hto ?_)
  refine And.intro trivial (c_toldSign (told := told) (s := st - 1) (by rw [L1, iZ_sub]) (by constructor <;> omega) (fun k hk => by rw [gI_s, if_neg (by omega)]; exact hto k hk) ?_)
  refine And.intro trivial (c_toldSign (told := told) (s := st - 2) (by rw [L2, iZ_sub]) (by constructor <;> omega) (fun k hk => by rw [gI_s, if_neg (by omega), gI_s, if_neg (by omega)]; exact hto k hk) ?_)
  refine And.intro trivial (h _ ?_ ?_ ?_ (((Fr.st ⟨rfl, rfl, by omega⟩).tr (Fr.st ⟨rfl, rfl, by omega⟩)).tr (Fr.st ⟨rfl, rfl, by omega⟩)))
  · simp only [gI_s]; simp
  · simp only [gI_s]; simp
  · simp only [gI_s]; simp
/-- addNote: the note's own fields, then the song's -/
theorem c_addNote {D : Dt} {k : Int × Int × Int × Int} {l : Int} {x : Int32} (hx : x = iZ l) (hK : CKk m k) (hS : SRep m sn D) (h9 : gP m 1 1 9 = some (10, sn))
    (h : ∀ m', gI m' 8 nn 1 = iZ D.2.2.2.2 → gI m' 8 nn 2 = iZ l → gI m' 8 nn 3 = iZ ((D.2.2.1 : Int) - 1) → gI m' 8 nn 4 = iZ k.1 → gI m' 8 nn 5 = iZ k.2.1 → gI m' 10 sn 1 = iZ ((D.1 : Int) + 1) → gI m' 10 sn 4 = iZ (D.2.2.2.2 + l) → Fr (fun t n k => (t = 8 ∧ n = nn ∧ 1 ≤ k ∧ k ≤ 5) ∨ (t = 10 ∧ n = sn ∧ (k = 1 ∨ k = 4))) m m' → K none m') : smC true 31 [vR (some (1, 1)), vR (some (8, nn)), vI x] m K := by
  subst hx
  obtain ⟨⟨s1, s3, s4⟩, _, _⟩ := hS
  obtain ⟨k10, k11, k12, k13⟩ := hK
  refine smC_wp [some (vR (some (1, 1))), some (vR (some (8, nn))), some (vI (iZ l))] cd_31 [] 90 OK_31 (by decide) rfl rfl (Nat.le_of_ble_eq_true rfl) ?_
  refine Exists.intro _ (And.intro h9 ?_)
  refine Exists.intro _ (And.intro h9 ?_)
  refine Exists.intro _ (And.intro h9 ?_)
  refine Exists.intro _ (And.intro h9 ?_)
  refine And.intro trivial (h _ ?_ ?_ ?_ ?_ ?_ ?_ ?_ ((((((Fr.st (Or.inl ⟨rfl, rfl, by omega⟩)).tr (Fr.st (Or.inl ⟨rfl, rfl, by omega⟩))).tr (Fr.st (Or.inl ⟨rfl, rfl, by omega⟩))).tr (Fr.st (Or.inl ⟨rfl, rfl, by omega⟩))).tr (Fr.st (Or.inl ⟨rfl, rfl, by omega⟩))).tr (Fr.st (Or.inr ⟨rfl, rfl, by omega⟩)) |>.tr (Fr.st (Or.inr ⟨rfl, rfl, by omega⟩))))
  · simp only [gI_s]; simp; exact s4
  · simp only [gI_s]; simp
  · simp only [gI_s]; simp; rw [s3, L1, iZ_sub]
  · simp only [gI_s]; simp; exact k10
  · simp only [gI_s]; simp; exact k11
  · simp only [gI_s]; simp; rw [s1, L1, iZ_add]
  · simp only [gI_s]; simp; rw [s4, iZ_add]
end CADD
