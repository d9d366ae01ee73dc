/-! THE MODEL: the other bodies; what is behind -/
section MBODY2
variable {m0 m : Mem} {K : Option SV → Mem → Prop} {D : Dt} {tm : Nat → Int} {i : Nat} {s : WS} {lf a T : Int} {b : Bool} {P : Int → Int × Int}
theorem tuS_v {q4 : Bool} {c : Nat} : (tuS P T lf q4 c).1 = 1 ∨ (tuS P T lf q4 c).1 = 3 := by
  unfold tuS; split
  · simp
  · split <;> simp
theorem M_late {q4 q8 : Bool} (hE : ME m0 i tm D) (eT : wT tm (tm 5) (D.2.1 i) = T) (eP : Pk (tm 3) (D.2.1 i) = P) (hq : q4 = true ↔ qk (tm 0) (D.2.1 i 9) (tm 5) (lf / 4)) (hq8 : q8 = true ↔ qk (tm 0) (D.2.1 i 9) (tm 5) (lf / 8)) (rl : 8 ≤ lf ∧ lf ≤ 1000000 ∧ lf % 8 = 0) (hC : MC m0 m i s lf a b) (hlen : s.1.length + 5 ≤ 3600)
    (h1 : ∀ m', q8 = true → MC m0 m' i (apN i (tuS P T lf q4 1).2 s) lf a b → K (some (vI (iZ (lessN (tuS P T lf q4 1).1)))) m')
    (h0 : ∀ m', ¬ q8 = true → MC m0 m' i (apN i ((0, P 0, 4 * (lf / 8)) :: shQ P 1 (lf / 8) (lf - 4 * (lf / 8))) s) lf a b → K (some (vI (iZ 1))) m') : smC true 209 [vR (some (23, 231))] m K := by
  obtain ⟨he, ⟨htm, hD, hi, hn1⟩, e44, _⟩ := id hE
  have h5 := htm.2.2.2.2.2.1
  have t0 := htm.1
  have hsp := (hD.2.1 i hi).2.2.2.2.2.2.1
  have E := MC.e3 hE hC
  have r51 := hC.2.1.1
  have e8 : gI m 23 231 51 / 8 = iZ (3 * (lf / 8)) := by
    rw [r51, L8, iZ_div (by constructor <;> omega) (by decide) (by omega) (by decide)]; congr 1; omega
  refine smC_wp [some (vR (some (23, 231))), none] cd_209 [] 60 OK_209 (by decide) rfl rfl (Nat.le_of_ble_eq_true rfl) ?_
  refine And.intro (by decide) ?_
  refine And.intro trivial (M_of (i := i) (w := 9) (rn hE hC) rfl hD E.2.2 hi (by decide) ?_)
  rw [mw_id (by decide) (by decide)]
  refine And.intro trivial (M_isQuick (t := lf / 8) e8 rfl E.2.1 (by omega) (by omega) (by omega) (by omega) (fun q => ?_) (fun q => ?_))
  · refine And.intro (fun w => absurd w (by decide)) (fun _ => ?_)
    refine And.intro trivial (M_turn (c := 1) (o1 := 1) (o2 := 2) rfl rfl (by omega) hE eT eP hq rl hC (by omega) (fun m1 C1 => ?_))
    refine And.intro trivial (M_less rfl ?_ ?_)
    · rcases tuS_v (P := P) (T := T) (lf := lf) (q4 := q4) (c := 1) with e | e <;> rw [e] <;> decide
    · exact And.intro trivial (h1 m1 (hq8.mpr q) C1)
  · refine And.intro (fun _ => ?_) (fun w => absurd rfl w)
    refine And.intro (by decide) ?_
    have e2 : gI m 23 231 51 / 2 = iZ (3 * (4 * (lf / 8))) := by
      rw [r51, L2, iZ_div (by constructor <;> omega) (by decide) (by omega) (by decide)]; congr 1; omega
    refine And.intro trivial (M_puts (kd := 0) (l := 4 * (lf / 8)) rfl e2 (by omega) hE hC (by omega) (by omega) (fun m1 C1 => ?_))
    refine And.intro trivial (M_quarters (o1 := 1) (o2 := 2) (e := lf / 8) rfl rfl e8 (by omega) (by omega) hE eP (by omega) C1 (by show s.1.length + 1 + 4 ≤ 3600; omega) (fun m2 C2 => ?_))
    refine And.intro trivial (h0 m2 (fun w => q (hq8.mp w)) ?_)
    have esh : shQ P 1 (lf / 8) (lf - 4 * (lf / 8)) = [(1, P 1, lf / 8), (0, P 0, lf / 8), (2, P 2, lf / 8), (0, P 0, lf - 4 * (lf / 8) - 3 * (lf / 8))] := rfl
    rw [esh, show lf - 4 * (lf / 8) - 3 * (lf / 8) = lf / 8 by omega]
    rw [eP] at C2
    exact C2
theorem M_longMo (hE : ME m0 i tm D) (eT : wT tm (tm 5) (D.2.1 i) = T) (eP : Pk (tm 3) (D.2.1 i) = P) (rl : 0 ≤ lf ∧ lf ≤ 1000000) (hC : MC m0 m i s lf a b) (hlen : s.1.length + 5 ≤ 3600)
    (h1 : ∀ m', 5 * T ≤ lf → MC m0 m' i (apN i (shQ P 3 T lf) s) lf a b → K (some (vI (iZ 1))) m') (h2 : ∀ m', ¬ 5 * T ≤ lf → 3 * T ≤ lf → MC m0 m' i (apN i (shQ P 0 T lf) s) lf a b → K (some (vI (iZ 2))) m') (h3 : ¬ 5 * T ≤ lf → ¬ 3 * T ≤ lf → K (some (vI (iZ 3))) m) : smC true 210 [vR (some (23, 231))] m K := by
  have hT := hE.Tr
  rw [eT] at hT
  have r45 : gI m 23 231 45 = iZ (3 * T) := by rw [rt hE hC, eT]
  have r51 := hC.2.1.1
  refine smC_wp [some (vR (some (23, 231)))] cd_210 [] 40 OK_210 (by decide) rfl rfl (Nat.le_of_ble_eq_true rfl) ?_
  refine And.intro (fun z => ?_) (fun z => ?_)
  · rw [r45, r51, L5, iZ_mul, iZ_le (by constructor <;> omega) (by constructor <;> omega)] at z
    refine And.intro trivial (M_turns (n := 4) (o1 := 0) (o2 := 2) rfl rfl rfl (by omega) (by omega) hE eT eP (by decide) (by omega) hC (by omega) (fun m' C' => ?_))
    exact And.intro trivial (h1 m' (by omega) C')
  · rw [r45, r51, L5, iZ_mul, iZ_le (by constructor <;> omega) (by constructor <;> omega)] at z
    refine And.intro trivial (M_mordent hE eT eP rl hC (by omega) (fun q => ?_) (fun m' q C' => ?_))
    · refine And.intro trivial (M_less (v := 3) rfl (by decide) ?_)
      exact And.intro trivial (h3 (by omega) q)
    · refine And.intro trivial (M_less (v := 1) rfl (by decide) ?_)
      exact And.intro trivial (h2 m' (by omega) q C')
theorem tsS_v {bu af : Bool} : (tsS P T lf bu af).1 = 1 ∨ (tsS P T lf bu af).1 = 0 := by
  unfold tsS; split
  · simp
  · split <;> simp
theorem tsS_fit {bu af : Bool} (h : fitN T lf bu ≠ 0) : (tsS P T lf bu af).1 = 1 := by
  unfold tsS; split
  · rfl
  · rfl
theorem M_below {bu af sty : Bool} (hE : ME m0 i tm D) (eT : wT tm (tm 5) (D.2.1 i) = T) (eP : Pk (tm 3) (D.2.1 i) = P) (hbu : bu = true ↔ buP P s (tm 6)) (hsty : sty = true ↔ tm 6 = 1) (haf : af = afB P (D.2.1 i 12) (tm 4) (nxD 0 D i)) (rl : 0 ≤ lf ∧ lf ≤ 1000000) (hC : MC m0 m i s lf a b) (hlen : s.1.length + 70 ≤ 3600)
    (h1 : ∀ m' lf', fitN T (lf - 2 * T) sty ≠ 0 → MC m0 m' i (apN i ((2, P 2, T) :: (0, P 0, T) :: (tsS P T (lf - 2 * T) sty af).2.1) s) lf' a (tsS P T (lf - 2 * T) sty af).2.2 → K (some (vI (iZ 1))) m')
    (h2 : ∀ m' lf', ¬ fitN T (lf - 2 * T) sty ≠ 0 → (tsS P T lf bu af).1 = 1 → MC m0 m' i (apN i (tsS P T lf bu af).2.1 s) lf' a (tsS P T lf bu af).2.2 → K (some (vI (iZ 2))) m')
    (h3 : ∀ m', ¬ fitN T (lf - 2 * T) sty ≠ 0 → ¬ (tsS P T lf bu af).1 = 1 → MC m0 m' i (apN i (prS P T lf bu).2 s) lf a false → K (some (vI (iZ (lessN (prS P T lf bu).1)))) m') : smC true 211 [vR (some (23, 231))] m K := by
  obtain ⟨he, ⟨htm, hD, hi, hn1⟩, e44, _⟩ := id hE
  have hT := hE.Tr
  rw [eT] at hT
  have E := MC.e3 hE hC
  have r45 : gI m 23 231 45 = iZ (3 * T) := by rw [rt hE hC, eT]
  have r51 := hC.2.1.1
  have t6 := htm.2.2.2.2.2.2
  have g6 : gI m 24 232 (6 : Int32).toNatClampNeg = iZ (tm 6) := E.2.1 6 (by decide)
  have f1 := fitN_rng (T := T) (t := lf - 2 * T) (bu := sty) (by omega)
  have rest : smE true 211 17 [some (vR (some (23, 231))), some (vI (if sty then 1 else 0))] [] m K := by
    refine wp_ok (by decide) OK_211 (cc := cd_211) rfl (stops := []) 60 _ _ _ _ ?_
    refine And.intro trivial (M_fit (h0 := lf - 2 * T) ?_ rfl hT r45 (by omega) ?_)
    · rw [r51, r45, L2, iZ_mul, iZ_sub]; congr 1; omega
    refine And.intro (fun z => ?_) (fun z => ?_)
    · rw [L0, iZ_eq (by constructor <;> omega) (by decide)] at z
      have hle := fitN_le (T := T) (t := lf - 2 * T) (bu := sty) (by omega) z
      refine And.intro trivial (M_puts (kd := 2) (l := T) rfl r45 (by omega) hE hC (by omega) (by omega) (fun m1 C1 => ?_))
      refine And.intro trivial (M_puts (kd := 0) (l := T) rfl (by rw [rt hE C1, eT]) (by omega) hE C1 (by omega) (by show s.1.length + 1 < 3600; omega) (fun m2 C2 => ?_))
      have e2 : gI m2 23 231 51 - 2 * gI m2 23 231 45 = iZ (3 * (lf - 2 * T)) := by rw [C2.2.1.1, rt hE C2, eT, L2, iZ_mul, iZ_sub]; congr 1; omega
      have C3 := C2.left (lf' := lf - 2 * T)
      rw [← e2] at C3
      have r3 : 0 ≤ lf - 2 * T := by
        have : 0 ≤ fitN T (lf - 2 * T) sty * T := Int.mul_nonneg (by omega) (by omega)
        omega
      refine And.intro trivial (M_trills rfl hE eT eP haf (by omega) C3 (by show s.1.length + 1 + 1 + 66 ≤ 3600; omega) (fun m4 l4 q C4 => ?_) (fun m4 q C4 => ?_))
      · refine And.intro (fun w => absurd w (by decide)) (fun _ => ?_)
        rw [eP] at C4
        exact And.intro trivial (h1 m4 l4 z C4)
      · exact absurd (tsS_fit z) q
    · rw [L0, iZ_eq (by constructor <;> omega) (by decide)] at z
      refine And.intro trivial (M_trill hE eT eP hbu haf rl hC (by omega) (fun m1 l1 q C1 => ?_) (fun m1 q C1 => ?_))
      · refine And.intro trivial (M_less (v := 1) rfl (by decide) ?_)
        exact And.intro trivial (h2 m1 l1 (fun w => w z) q C1)
      · have hv : lessN (prS P T lf bu).1 = 2 ∨ lessN (prS P T lf bu).1 = 3 := by unfold lessN; split <;> simp
        refine And.intro trivial (M_less rfl (by rcases hv with e | e <;> rw [e] <;> decide) ?_)
        have := h3 m1 (fun w => w z) q C1
        refine And.intro trivial ?_
        rw [show lessN (lessN (prS P T lf bu).1) = lessN (prS P T lf bu).1 by rcases hv with e | e <;> rw [e] <;> rfl]
        exact this
  refine smC_wp [some (vR (some (23, 231))), none] cd_211 [17] 40 OK_211 (by decide) rfl rfl (Nat.le_of_ble_eq_true rfl) ?_
  refine And.intro (by rw [L6, iZ_in (by decide)]; decide) ?_
  rw [g6]
  refine And.intro (fun z => ?_) (fun z => ?_)
  · rw [L1, iZ_eq (by constructor <;> omega) (by decide)] at z
    rw [show sty = false by cases sty with | false => rfl | true => exact absurd (hsty.mp rfl) z] at rest
    exact And.intro trivial rest
  · rw [L1, iZ_eq (by constructor <;> omega) (by decide)] at z
    rw [hsty.mpr z] at rest
    exact And.intro trivial rest
end MBODY2
