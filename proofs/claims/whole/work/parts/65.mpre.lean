/-! THE MODEL: prefixes -/
theorem un3 {t : Int} (ht : 0 ≤ t) (h : unN t = 3) : t % 3 = 0 := by
  have h1 := gcd_lw 9 t.toNat
  have hd := Nat.gcd_dvd_left t.toNat 512
  obtain ⟨g, e1, e2, e3, e4, e5⟩ := gcd_un t.toNat
  rw [Int.toNat_of_nonneg ht] at e4
  have eg : g = Nat.gcd t.toNat 512 := by
    have := Nat.gcd_mul_left 3 t.toNat 512
    change Nat.gcd (3 * t.toNat) 1536 = 3 * Nat.gcd t.toNat 512 at this
    omega
  rw [← eg] at hd
  obtain ⟨q, hq⟩ := hd
  have : t = (g : Int) * (q : Int) := by
    rw [← Int.natCast_mul, ← hq]; omega
  rw [h, this, Int.mul_ediv_cancel_left _ (by omega)] at e4
  rw [this, e4]
  omega
section MPRE
variable {m0 m : Mem} {K : Option SV → Mem → Prop} {D : Dt} {tm : Nat → Int} {i : Nat} {s : WS} {lf a : Int} {b : Bool}
theorem MC.left {lf' : Int} (hC : MC m0 m i s lf a b) : MC m0 (sI m 23 231 51 (iZ (3 * lf'))) i s lf' a b := by
  obtain ⟨⟨c1, c2, c3, c4⟩, ⟨d1, d2, d3⟩, w, F⟩ := hC
  refine ⟨⟨MV_keep (fun t n k _ ht => by rw [gI_s, if_neg (by omega)]) c1, ?_, ?_, ?_⟩, ⟨?_, ?_, ?_⟩, w, F.tr (Fr.st (Or.inl ⟨rfl, rfl, by omega⟩))⟩
  · rw [gI_s, if_neg (by omega)]; exact c2
  · rw [gI_s, if_neg (by omega)]; exact c3
  · rw [gI_s, if_neg (by omega)]; exact c4
  · rw [gI_s, if_pos ⟨rfl, rfl, rfl⟩]
  · rw [gI_s, if_neg (by omega)]; exact d2
  · rw [gI_s, if_neg (by omega)]; exact d3
theorem MC.abt {b' : Bool} {x : Int32} (hx : x = (if b' then 1 else 0)) (hC : MC m0 m i s lf a b) : MC m0 (sI m 23 231 52 x) i s lf a b' := by
  obtain ⟨⟨c1, c2, c3, c4⟩, ⟨d1, d2, d3⟩, w, F⟩ := hC
  refine ⟨⟨MV_keep (fun t n k _ ht => by rw [gI_s, if_neg (by omega)]) c1, ?_, ?_, ?_⟩, ⟨?_, ?_, ?_⟩, w, F.tr (Fr.st (Or.inl ⟨rfl, rfl, by omega⟩))⟩
  · rw [gI_s, if_neg (by omega)]; exact c2
  · rw [gI_s, if_neg (by omega)]; exact c3
  · rw [gI_s, if_neg (by omega)]; exact c4
  · rw [gI_s, if_neg (by omega)]; exact d1
  · rw [gI_s, if_neg (by omega)]; exact d2
  · rw [gI_s, if_pos ⟨rfl, rfl, rfl⟩]; exact hx
theorem MC.ahd {a' : Int} (hC : MC m0 m i s lf a b) : MC m0 (sI m 45 253 i (iZ (3 * a'))) i s lf a' b := by
  obtain ⟨⟨c1, c2, c3, c4⟩, ⟨d1, d2, d3⟩, w, F⟩ := hC
  refine ⟨⟨MV_keep (fun t n k _ ht => by rw [gI_s, if_neg (by omega)]) c1, ?_, ?_, ?_⟩, ⟨?_, ?_, ?_⟩, w, F.tr (Fr.st (Or.inr (Or.inr ⟨rfl, rfl, rfl⟩)))⟩
  · rw [gI_s, if_neg (by omega)]; exact c2
  · rw [gI_s, if_neg (by omega)]; exact c3
  · rw [gI_s, if_neg (by omega)]; exact c4
  · rw [gI_s, if_neg (by omega)]; exact d1
  · rw [gI_s, if_pos ⟨rfl, rfl, rfl⟩]
  · rw [gI_s, if_neg (by omega)]; exact d3
theorem MC.sh {d : Int} (hC : MC m0 m i s lf a b) (hd : 0 ≤ d ∧ d < ltL s) : MC m0 (sI (sI m 40 248 (s.1.length - 1) (iZ (3 * (ltL s - d)))) 23 231 50 (iZ (3 * (s.2.2 - d)))) i (shN d s) lf a b := by
  have hw := hC.2.2.1.sh hd
  obtain ⟨⟨c1, c2, c3, c4⟩, ⟨d1, d2, d3⟩, w, F⟩ := hC
  obtain ⟨l, lk, c⟩ := s
  cases l with
  | nil => exact absurd hd.2 (by show ¬ d < 0; omega)
  | cons t ts =>
    obtain ⟨t1, t2, t3, t4, t5, t6⟩ := t
    refine ⟨⟨⟨?_, ?_⟩, ?_, ?_, ?_⟩, ⟨?_, ?_, ?_⟩, hw, F.tr ((Fr.st (Or.inr (Or.inl ⟨by decide, by decide⟩))).tr (Fr.st (Or.inl ⟨rfl, rfl, by omega⟩)))⟩
    · obtain ⟨a1, a2, a3, a4, a5, a6, a7⟩ := c1.1
      refine ⟨?_, ?_, ?_, ?_, ?_, ?_, ?_⟩
      · simp only [gI_s]; simp; exact a1
      · simp only [gI_s]; simp; exact a2
      · simp only [gI_s]; simp; exact a3
      · simp only [gI_s]; simp; exact a4
      · simp only [gI_s]; simp; exact a5
      · simp only [gI_s]; simp; exact a6
      · simp only [gI_s]; simp [ltL]
    · refine MV_keep (fun t n k hk ht => ?_) c1.2
      rw [gI_s, if_neg (by omega), gI_s, if_neg]
      simp only [List.length_cons]; omega
    · simp only [gI_s]; simp; exact c2
    · simp only [gI_s]; simp; exact c3
    · simp only [gI_s]; simp [shN]
    · simp only [gI_s]; simp; exact d1
    · simp only [gI_s]; simp; exact d2
    · simp only [gI_s]; simp; exact d3
theorem lastN_ne (hw : WOK s) : (lastN s ≠ -1 ↔ s.2.1 = true) ∧ -1 ≤ lastN s ∧ lastN s < 200 := by
  obtain ⟨l, lk, c⟩ := s
  unfold lastN
  cases lk with
  | false => simp
  | true =>
    cases l with
    | nil => exact absurd rfl (hw.1 rfl)
    | cons t ts =>
      have h1 := (hw.2 t List.mem_cons_self).1.1
      have h2 : ltN (t :: ts, true, c) = t.2.1 := rfl
      simp only [h2]
      simp only [if_true]
      refine ⟨⟨fun _ => trivial, fun _ => by omega⟩, by omega, by omega⟩
theorem MC.tl (hC : MC m0 m i s lf a b) (hs : s.2.1 = true) : 1 ≤ s.1.length ∧ gI m 40 248 (s.1.length - 1) = iZ (3 * ltL s) ∧ 1 ≤ ltL s ∧ ltL s ≤ 1000000 := by
  obtain ⟨⟨c1, c2, c3, c4⟩, _, w, F⟩ := hC
  obtain ⟨l, lk, c⟩ := s
  cases l with
  | nil => exact absurd rfl (w.1 hs)
  | cons t ts =>
    have := w.2 t List.mem_cons_self
    exact ⟨by simp, c1.1.2.2.2.2.2.2, this.2.1, this.2.2⟩
theorem ME.Tr (hE : ME m0 i tm D) : 8 ≤ wT tm (tm 5) (D.2.1 i) ∧ wT tm (tm 5) (D.2.1 i) ≤ 2000 :=
  wT_rng hE.2.1.1 (hE.2.1.2.1.2.1 i hE.2.1.2.2.1) (by have := hE.2.1.1.2.2.2.2.2.1; omega)
theorem rt (hE : ME m0 i tm D) (hC : MC m0 m i s lf a b) : gI m 23 231 45 = iZ (3 * wT tm (tm 5) (D.2.1 i)) := (hC.rd (by omega)).trans hE.2.2.2.1
theorem rn (hE : ME m0 i tm D) (hC : MC m0 m i s lf a b) : gI m 23 231 44 = iZ i := (hC.rd (by omega)).trans hE.2.2.1
theorem M_slide {T : Int} {P : Int → Int × Int} (hE : ME m0 i tm D) (eT : wT tm (tm 5) (D.2.1 i) = T) (eP : Pk (tm 3) (D.2.1 i) = P) (rl : 0 ≤ lf ∧ lf ≤ 1000000) (hC : MC m0 m i s lf a b) (hlen : s.1.length + 2 ≤ 3600)
    (h3 : lf < 2 * T → K (some (vI (iZ 3))) m) (h2 : ∀ m', ¬ lf < 2 * T → lf < 4 * T → MC m0 m' i (apN i [(2, P 2, T)] s) (lf - T) a b → K (some (vI (iZ 2))) m') (h1 : ∀ m', ¬ lf < 2 * T → ¬ lf < 4 * T → MC m0 m' i (apN i [(4, P 4, T), (2, P 2, T)] s) (lf - 2 * T) a b → K (some (vI (iZ 1))) m') : smC true 193 [vR (some (23, 231))] m K := by
  have hT := hE.Tr
  rw [eT] at hT
  have hp : ∀ {m1 : Mem} {s1 : WS}, MC m0 m1 i s1 lf a b → gI m1 23 231 45 = iZ (3 * T) ∧ gI m1 23 231 51 = iZ (3 * lf) := fun C1 => ⟨by rw [rt hE C1, eT], C1.2.1.1⟩
  subst eP
  have q0 := hp hC
  refine smC_wp [some (vR (some (23, 231))), none] cd_193 [] 60 OK_193 (by decide) rfl rfl (Nat.le_of_ble_eq_true rfl) ?_
  refine And.intro (fun z => ?_) (fun z => ?_)
  · rw [q0.1, q0.2, L2, iZ_mul, iZ_le (by constructor <;> omega) (by constructor <;> omega)] at z
    refine And.intro (fun w => ?_) (fun w => ?_)
    · rw [q0.1, q0.2, L4, iZ_mul, iZ_lt (by constructor <;> omega) (by constructor <;> omega)] at w
      refine And.intro (fun _ => ?_) (fun y => absurd rfl y)
      refine And.intro trivial (M_puts (kd := 2) (l := T) rfl q0.1 (by omega) hE hC (by omega) (by omega) (fun m2 C2 => ?_))
      have q2 := hp C2
      refine And.intro (fun _ => ?_) (fun y => absurd rfl y)
      refine And.intro (fun _ => ?_) (fun y => absurd rfl y)
      refine And.intro trivial ?_
      rw [q2.1, q2.2, iZ_sub, show 3 * lf - 3 * T = 3 * (lf - T) by omega]
      exact h2 _ (by omega) (by omega) C2.left
    · rw [q0.1, q0.2, L4, iZ_mul, iZ_lt (by constructor <;> omega) (by constructor <;> omega)] at w
      refine And.intro (fun y => absurd y (by decide)) (fun _ => ?_)
      refine And.intro trivial (M_puts (kd := 4) (l := T) rfl q0.1 (by omega) hE hC (by omega) (by omega) (fun m1 C1 => ?_))
      refine And.intro trivial (M_puts (kd := 2) (l := T) rfl (hp C1).1 (by omega) hE C1 (by omega) (by show s.1.length + 1 < 3600; omega) (fun m2 C2 => ?_))
      have q2 := hp C2
      refine And.intro (fun y => absurd y (by decide)) (fun _ => ?_)
      refine And.intro (fun y => absurd y (by decide)) (fun _ => ?_)
      refine And.intro trivial ?_
      rw [q2.1, q2.2, L2, iZ_mul, iZ_sub, show 3 * lf - 2 * (3 * T) = 3 * (lf - 2 * T) by omega]
      exact h1 _ (by omega) (by omega) C2.left
  · rw [q0.1, q0.2, L2, iZ_mul, iZ_le (by constructor <;> omega) (by constructor <;> omega)] at z
    exact And.intro trivial (h3 (by omega))
theorem M_long (hE : ME m0 i tm D) (hg : 0 < ngr (D.2.1 i)) (rl : 16 ≤ lf ∧ lf ≤ 1000000 ∧ lf % 16 = 0) (hC : MC m0 m i s lf a b) (hlen : s.1.length + 1 ≤ 3600)
    (h3 : qk (tm 0) (D.2.1 i 9) (tm 5) (apL lf) → K (some (vI (iZ 3))) m) (h1 : ∀ m', ¬ qk (tm 0) (D.2.1 i 9) (tm 5) (apL lf) → MC m0 m' i (apN i [(3, nGr (D.2.1 i) 0, apL lf)] s) (lf - apL lf) a b → K (some (vI (iZ 1))) m') : smC true 187 [vR (some (23, 231))] m K := by
  obtain ⟨he, ⟨htm, hD, hi, hn1⟩, e44, _⟩ := id hE
  have ha := apL_rng (L := lf) (by omega)
  have h5 := htm.2.2.2.2.2.1
  have h0 := htm.1
  have hsp := (hD.2.1 i hi).2.2.2.2.2.2.1
  have e51 := hC.2.1.1
  have E := MC.e3 hE hC
  have rest : smE true 187 29 [some (vR (some (23, 231))), none] [vI (iZ (3 * apL lf))] m K := by
    refine wp_ok (by decide) OK_187 (cc := cd_187) rfl (stops := []) 60 _ _ _ _ ?_
    refine And.intro trivial (M_of (i := i) (w := 9) (rn hE hC) rfl hD E.2.2 hi (by decide) ?_)
    rw [mw_id (by decide) (by decide)]
    refine And.intro trivial (M_isQuick rfl rfl E.2.1 (by omega) (by omega) (by omega) (by omega) (fun q => ?_) (fun q => ?_))
    · refine And.intro (fun y => absurd y (by decide)) (fun _ => ?_)
      exact And.intro trivial (h3 q)
    · refine And.intro (fun _ => ?_) (fun y => absurd rfl y)
      refine And.intro trivial (M_graces (j := 0) (n := 1) (l := apL lf) rfl rfl rfl hE (by decide) (fun q q1 q2 => by omega) (fun _ => by omega) hC hlen (fun m2 C2 => ?_))
      refine And.intro trivial ?_
      rw [C2.2.1.1, iZ_sub, show 3 * lf - 3 * apL lf = 3 * (lf - apL lf) by omega]
      exact h1 _ q C2.left
  refine smC_wp [some (vR (some (23, 231))), none] cd_187 [29] 60 OK_187 (by decide) rfl rfl (Nat.le_of_ble_eq_true rfl) ?_
  refine And.intro trivial (M_part (t := lf) (w := 0) e51 rfl (by omega) (by decide) ?_)
  rw [if_pos rfl]
  have hun := unN_rng (t := lf) (by omega)
  refine And.intro (fun z => ?_) (fun z => ?_)
  · rw [L3, iZ_eq (by constructor <;> omega) (by decide)] at z
    refine And.intro (by decide) ?_
    refine And.intro trivial ?_
    rw [e51, L2, iZ_div (by constructor <;> omega) (by decide) (by omega) (by decide)]
    have : 3 * lf / 2 = 3 * apL lf := by unfold apL; rw [if_neg z]; omega
    rw [this]; exact rest
  · rw [L3, iZ_eq (by constructor <;> omega) (by decide)] at z
    refine And.intro (by decide) ?_
    refine And.intro trivial ?_
    have h3 := un3 (t := lf) (by omega) z
    rw [e51, L3, L2, iZ_div (by constructor <;> omega) (by decide) (by omega) (by decide), iZ_mul]
    have : 3 * lf / 3 * 2 = 3 * apL lf := by unfold apL; rw [if_pos z]; omega
    rw [this]; exact rest
end MPRE
