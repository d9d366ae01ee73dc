/-! THE MODEL: graces ahead or of the note; the prefix -/
theorem m6 (x T : Int) : 2 * x * (3 * T) = 6 * (x * T) := by rw [Int.mul_assoc 2 x (3 * T), Int.mul_left_comm x 3 T]; omega
section MGR
variable {m0 m : Mem} {K : Option SV → Mem → Prop} {D : Dt} {tm : Nat → Int} {i : Nat} {s : WS} {lf a : Int} {b : Bool}
theorem M_wgr {T : Int} {mn : Nat} {x : Int32} (hx : x = iZ mn) (hE : ME m0 i tm D) (eT : wT tm (tm 5) (D.2.1 i) = T) (hmn : 1 ≤ mn ∧ mn ≤ 4) (hg : mn = ngr (D.2.1 i)) (rl : 16 ≤ lf ∧ lf ≤ 1000000) (hC : MC m0 m i s lf a b) (hlen : s.1.length + 4 ≤ 3600)
    (h1 : ∀ m', tm 2 = 1 ∧ s.2.1 = true ∧ 2 * (mn : Int) * T ≤ ltL s → MC m0 m' i (apN i (grQ (nGr (D.2.1 i)) T 0 mn) (shN (mn * T) s)) lf (mn * T) b → K (some (vI (iZ 1))) m')
    (h2 : ∀ m', ¬ (tm 2 = 1 ∧ s.2.1 = true ∧ 2 * (mn : Int) * T ≤ ltL s) → MC m0 m' i (apN i (grQ (nGr (D.2.1 i)) T (mn - plK T lf mn) (plK T lf mn)) s) (lf - plK T lf mn * T) a b → K (some (vI (iZ (if plK T lf mn = mn then 1 else if plK T lf mn = 0 then 3 else 2)))) m') : smC true 196 [vR (some (23, 231)), vI x] m K := by
  subst hx
  obtain ⟨he, ⟨htm, hD, hi, hn1⟩, e44, _⟩ := id hE
  have hT := hE.Tr
  rw [eT] at hT
  have hp : ∀ {m1 : Mem} {s1 : WS} {l1 a1 : Int}, MC m0 m1 i s1 l1 a1 b → gI m1 23 231 45 = iZ (3 * T) := fun C1 => by rw [rt hE C1, eT]
  have mT := mulB (a := (mn : Int)) (b := T) (A := 4) (B := 2000) (by omega) (by omega)
  have t2 := htm.2.2.1
  have E := MC.e3 hE hC
  have g2 : gI m 24 232 (2 : Int32).toNatClampNeg = iZ (tm 2) := E.2.1 2 (by decide)
  have hlast := lastN_ne hC.2.2.1
  have r45 := hp hC
  have r51 := hC.2.1.1
  have hple := plK_le T lf mn
  have fin : ¬ (tm 2 = 1 ∧ s.2.1 = true ∧ 2 * (mn : Int) * T ≤ ltL s) → ∀ q : Nat, q ≤ mn → q = plK T lf mn → smE true 196 129 [some (vR (some (23, 231))), some (vI (iZ mn)), some (vI (iZ q))] [] m K := by
    intro hnot q hq e
    rw [← e] at h2
    have qT := mulB (a := (q : Int)) (b := T) (A := 4) (B := 2000) (by omega) (by omega)
    refine wp_ok (by decide) OK_196 (cc := cd_196) rfl (stops := []) 40 _ _ _ _ ?_
    refine And.intro trivial (M_graces (j := mn - q) (n := q) (l := T) ?_ ?_ r45 hE (by omega) (fun r r1 r2 => by omega) (fun _ => by omega) hC (by omega) (fun m2 C2 => ?_))
    · rw [iZ_sub]; congr 1; omega
    · congr 1; omega
    have r2 := hp C2
    have ev : gI m2 23 231 51 - iZ (q : Int) * gI m2 23 231 45 = iZ (3 * (lf - q * T)) := by
      rw [C2.2.1.1, r2, iZ_mul, iZ_sub]
      congr 1
      have : (q : Int) * (3 * T) = 3 * (q * T) := by rw [Int.mul_left_comm]
      omega
    refine And.intro (fun z => ?_) (fun z => ?_)
    · rw [iZ_eq (by constructor <;> omega) (by constructor <;> omega)] at z
      refine And.intro (fun w => ?_) (fun w => ?_)
      · rw [L0, iZ_le (by constructor <;> omega) (by decide)] at w
        refine And.intro trivial ?_
        rw [ev]
        have := h2 _ hnot (C2.left (lf' := lf - q * T))
        rw [if_neg (by omega), if_pos (by omega)] at this
        exact this
      · rw [L0, iZ_le (by constructor <;> omega) (by decide)] at w
        refine And.intro trivial ?_
        rw [ev]
        have := h2 _ hnot (C2.left (lf' := lf - q * T))
        rw [if_neg (by omega), if_neg (by omega)] at this
        exact this
    · rw [iZ_eq (by constructor <;> omega) (by constructor <;> omega)] at z
      refine And.intro trivial ?_
      rw [ev]
      have := h2 _ hnot (C2.left (lf' := lf - q * T))
      rw [if_pos (by omega)] at this
      exact this
  have loop : ¬ (tm 2 = 1 ∧ s.2.1 = true ∧ 2 * (mn : Int) * T ≤ ltL s) → ∀ k : Nat, k ≤ mn → plK T lf k = plK T lf mn → smE true 196 104 [some (vR (some (23, 231))), some (vI (iZ mn)), some (vI (iZ k))] [] m K := by
    intro hnot k
    induction k with
    | zero =>
      intro hk e
      refine wp1_ok (by decide) OK_196 (cc := cd_196) rfl (stops := [104, 129]) (f := 30) ?_
      refine And.intro (fun _ => And.intro trivial (fin hnot 0 hk e)) (fun z => absurd (by decide) z)
    | succ k ih =>
      intro hk e
      have kT := mulB (a := ((k + 1 : Nat) : Int)) (b := T) (A := 4) (B := 2000) (by omega) (by omega)
      have e2 : 2 * ((k + 1 : Nat) : Int) * (3 * T) = 6 * (((k + 1 : Nat) : Int) * T) := m6 _ _
      have e3 : 2 * ((k + 1 : Nat) : Int) * T = 2 * (((k + 1 : Nat) : Int) * T) := Int.mul_assoc _ _ _
      refine wp1_ok (by decide) OK_196 (cc := cd_196) rfl (stops := [104, 129]) (f := 30) ?_
      refine And.intro (fun z => ?_) (fun z => ?_)
      · rw [L0, iZ_le (by constructor <;> omega) (by decide)] at z
        omega
      refine And.intro (fun z => ?_) (fun z => ?_)
      · rw [r45, r51, L2, iZ_mul, iZ_mul, e2, iZ_le (by constructor <;> omega) (by constructor <;> omega)] at z
        refine And.intro trivial (fin hnot (k + 1) hk ?_)
        rw [← e]
        unfold plK
        rw [if_neg (by omega)]
      · rw [r45, r51, L2, iZ_mul, iZ_mul, e2, iZ_le (by constructor <;> omega) (by constructor <;> omega)] at z
        refine And.intro trivial ?_
        rw [LM1, iZ_add, show ((k + 1 : Nat) : Int) + -1 = (k : Int) by omega]
        refine ih (by omega) ?_
        rw [← e]
        conv => rhs; unfold plK
        rw [if_pos (by omega)]
  refine smC_wp [some (vR (some (23, 231))), some (vI (iZ mn)), none] cd_196 [60, 104] 60 OK_196 (by decide) rfl rfl (Nat.le_of_ble_eq_true rfl) ?_
  refine And.intro (by rw [L2, iZ_in (by decide)]; decide) ?_
  rw [g2]
  refine And.intro (fun z => ?_) (fun z => ?_)
  · rw [L1, iZ_eq (by constructor <;> omega) (by decide)] at z
    exact And.intro trivial (loop (fun q => z q.1) mn (Nat.le_refl _) rfl)
  rw [L1, iZ_eq (by constructor <;> omega) (by decide)] at z
  refine And.intro (fun y => ?_) (fun y => ?_)
  · rw [hC.1.2.2.1, LM1, iZ_eq (by constructor <;> omega) (by decide)] at y
    exact And.intro trivial (loop (fun q => hlast.1.mpr q.2.1 y) mn (Nat.le_refl _) rfl)
  rw [hC.1.2.2.1, LM1, iZ_eq (by constructor <;> omega) (by decide)] at y
  have hlk := hlast.1.mp y
  have htl := hC.tl hlk
  have e1 : gI m 23 231 43 - 1 = iZ ((s.1.length - 1 : Nat) : Int) := by rw [hC.1.2.1, L1, iZ_sub]; congr 1; omega
  have c1 : (iZ ((s.1.length - 1 : Nat) : Int)).toNatClampNeg = s.1.length - 1 := by rw [iZ_clamp (by constructor <;> omega)]; omega
  have hin : vp_in (gI m 23 231 43 - 1) 3600 := by rw [e1]; exact (iZ_in (by constructor <;> omega)).mpr (by omega)
  have em : iZ (mn : Int) * gI m 23 231 45 = iZ (3 * (mn * T)) := by
    rw [r45, iZ_mul]; congr 1; rw [Int.mul_left_comm]
  have em2 : 2 * iZ (mn : Int) * gI m 23 231 45 = iZ (6 * (mn * T)) := by
    rw [r45, L2, iZ_mul, iZ_mul]; congr 1
    exact m6 _ _
  have e3 : 2 * (mn : Int) * T = 2 * ((mn : Int) * T) := Int.mul_assoc _ _ _
  refine And.intro hin ?_
  rw [em2, e1, c1, htl.2.1]
  refine And.intro (fun w => ?_) (fun w => ?_)
  · rw [iZ_lt (by constructor <;> omega) (by constructor <;> omega)] at w
    exact And.intro trivial (loop (fun q => by omega) mn (Nat.le_refl _) rfl)
  rw [iZ_lt (by constructor <;> omega) (by constructor <;> omega)] at w
  refine And.intro hin ?_
  refine And.intro hin ?_
  refine And.intro trivial ?_
  rw [e1, c1, htl.2.1, em, iZ_sub, show 3 * ltL s - 3 * (mn * T) = 3 * (ltL s - mn * T) by omega]
  refine wp1_ok (by decide) OK_196 (cc := cd_196) rfl (stops := [75]) (f := 40) ?_
  refine And.intro trivial ?_
  have q50 : gI (sI m 40 248 (s.1.length - 1) (iZ (3 * (ltL s - mn * T)))) 23 231 50 - iZ (mn : Int) * gI (sI m 40 248 (s.1.length - 1) (iZ (3 * (ltL s - mn * T)))) 23 231 45 = iZ (3 * (s.2.2 - mn * T)) := by
    rw [gI_s, if_neg (by omega), gI_s, if_neg (by omega), em, hC.1.2.2.2, iZ_sub]
    congr 1; omega
  rw [q50]
  have C2 := hC.sh (d := mn * T) (by omega)
  generalize sI (sI m 40 248 (s.1.length - 1) (iZ (3 * (ltL s - mn * T)))) 23 231 50 (iZ (3 * (s.2.2 - mn * T))) = m2 at C2 ⊢
  have n2 := rn hE C2
  have t2' := hp C2
  have ci : (iZ (i : Int)).toNatClampNeg = i := by rw [iZ_clamp (by have := hD.1; constructor <;> omega)]; omega
  refine wp1_ok (by decide) OK_196 (cc := cd_196) rfl (stops := [90]) (f := 40) ?_
  refine And.intro (by rw [n2]; exact (iZ_in (by have := hD.1; constructor <;> omega)).mpr (by have := hD.1; omega)) ?_
  refine And.intro trivial ?_
  rw [n2, ci, t2', iZ_mul, show (mn : Int) * (3 * T) = 3 * (mn * T) by rw [Int.mul_left_comm]]
  have C3 := C2.ahd (a' := mn * T)
  generalize sI m2 45 253 i (iZ (3 * (mn * T))) = m3 at C3 ⊢
  refine wp1_ok (by decide) OK_196 (cc := cd_196) rfl (stops := []) (f := 40) ?_
  refine And.intro trivial (M_graces (j := 0) (n := mn) (l := T) rfl (by congr 1; omega) (hp C3) hE (by omega) (fun r r1 r2 => by omega) (fun _ => by omega) C3 (by rw [shN_len]; omega) (fun m4 C4 => ?_))
  exact And.intro trivial (h1 m4 ⟨z, hlk, by omega⟩ C4)
/-- writesPrefix -/
theorem M_prefix (hE : ME m0 i tm D) (hC : MC m0 m i s (D.2.1 i 5) 0 false) (hlen : s.1.length + 4 ≤ 3600)
    (h : ∀ m', MC m0 m' i (wP tm (tm 5) (D.2.1 i) i s).2.1 (D.2.1 i 5 - (wP tm (tm 5) (D.2.1 i) i s).2.2.1) (wP tm (tm 5) (D.2.1 i) i s).2.2.2 false → K (some (vI (iZ (wP tm (tm 5) (D.2.1 i) i s).1))) m') : smC true 186 [vR (some (23, 231))] m K := by
  obtain ⟨he, ⟨htm, hD, hi, hn1⟩, e44, _⟩ := id hE
  have hno := hD.2.1 i hi
  have hpf := hno.2.2.2.2.2.2.2.2.1
  have h16 := hno.2.2.1
  have E := MC.e3 hE hC
  unfold wP preS at h
  refine smC_wp [some (vR (some (23, 231))), none] cd_186 [] 60 OK_186 (by decide) rfl rfl (Nat.le_of_ble_eq_true rfl) ?_
  refine And.intro trivial (M_of (i := i) (w := 11) (rn hE hC) rfl hD E.2.2 hi (by decide) ?_)
  rw [mw_id (by decide) (by decide)]
  refine And.intro (fun z => ?_) (fun z => ?_)
  rotate_left
  · rw [L0, iZ_eq (by constructor <;> omega) (by decide)] at z
    rw [if_pos z] at h
    refine And.intro trivial (h m ?_)
    rw [Int.sub_zero]; exact hC
  rw [L0, iZ_eq (by constructor <;> omega) (by decide)] at z
  rw [if_neg z] at h
  refine And.intro (fun y => ?_) (fun y => ?_)
  rotate_left
  · rw [L5, iZ_eq (by constructor <;> omega) (by decide)] at y
    rw [if_pos y] at h
    refine And.intro trivial (M_long hE (by unfold ngr; rw [if_pos y]; omega) h16 hC (by omega) (fun q => ?_) (fun m' q C' => ?_))
    · rw [if_pos (by simpa using q)] at h
      refine And.intro trivial (h m ?_)
      rw [Int.sub_zero]; exact hC
    · rw [if_neg (by simpa using q)] at h
      exact And.intro trivial (h m' C')
  rw [L5, iZ_eq (by constructor <;> omega) (by decide)] at y
  rw [if_neg y] at h
  refine And.intro (fun w => ?_) (fun w => ?_)
  rotate_left
  · rw [L6, iZ_eq (by constructor <;> omega) (by decide)] at w
    rw [if_pos w] at h
    refine And.intro trivial (M_slide hE rfl rfl (by omega) hC (by omega) (fun q => ?_) (fun m' q1 q2 C' => ?_) (fun m' q1 q2 C' => ?_))
    · rw [if_pos q] at h
      refine And.intro trivial (h m ?_)
      rw [Int.sub_zero]; exact hC
    · rw [if_neg q1, if_pos q2] at h
      exact And.intro trivial (h m' C')
    · rw [if_neg q1, if_neg q2] at h
      exact And.intro trivial (h m' C')
  rw [L6, iZ_eq (by constructor <;> omega) (by decide)] at w
  rw [if_neg w] at h
  have en : ((D.2.1 i 11).toNat : Int) = D.2.1 i 11 := Int.toNat_of_nonneg hpf.1
  refine And.intro trivial (M_wgr (mn := (D.2.1 i 11).toNat) (by rw [en]) hE rfl (by omega) (by unfold ngr; rw [if_neg y, if_neg w]) (by omega) hC hlen (fun m' q C' => ?_) (fun m' q C' => ?_))
  · rw [en] at q C'
    rw [if_pos q] at h
    refine And.intro trivial (h m' ?_)
    rw [Int.sub_zero]; exact C'
  · rw [en] at q
    rw [if_neg q] at h
    exact And.intro trivial (h m' C')
end MGR
