/-! THE MODEL: turns, pralls, mordents, fits -/
def altG (P : Int → Int × Int) (T : Int) : Int → Int → Nat → List Pl
  | _, _, 0 => []
  | k, l, n + 1 => (k, P k, T) :: altG P T l k n
theorem altG_Q (P : Int → Int × Int) (T : Int) : ∀ (n : Nat) (k l : Int), l = 1 - k → altQ P T k n = altG P T k l n
  | 0, _, _, _ => rfl
  | n + 1, k, l, e => by rw [altQ, altG, ← e, altG_Q P T n l k (by omega)]
section MTU
variable {m0 m : Mem} {K : Option SV → Mem → Prop} {D : Dt} {tm : Nat → Int} {i : Nat} {s : WS} {lf a T : Int} {b : Bool} {P : Int → Int × Int}
theorem M_turns {n : Nat} {o1 o2 : Int} {x1 x2 x3 : Int32} (h1 : x1 = iZ o1) (h2 : x2 = iZ o2) (h3 : x3 = iZ n) (k1 : o1 = 0 ∨ o1 = 1 ∨ o1 = 2) (k2 : o2 = 0 ∨ o2 = 1 ∨ o2 = 2) (hE : ME m0 i tm D) (eT : wT tm (tm 5) (D.2.1 i) = T) (eP : Pk (tm 3) (D.2.1 i) = P) (hn : n ≤ 64) (rl : n * T < lf ∧ lf ≤ 1000000) (hC : MC m0 m i s lf a b) (hlen : s.1.length + n + 1 ≤ 3600)
    (h : ∀ m', MC m0 m' i (apN i (altG P T o1 o2 n ++ [(0, P 0, lf - n * T)]) s) lf a b → K none m') : smC true 203 [vR (some (23, 231)), vI x1, vI x2, vI x3] m K := by
  subst h1; subst h2; subst h3
  have hT := hE.Tr
  rw [eT] at hT
  have hp : ∀ {m1 : Mem} {s1 : WS}, MC m0 m1 i s1 lf a b → gI m1 23 231 45 = iZ (3 * T) ∧ gI m1 23 231 51 = iZ (3 * lf) := fun C1 => ⟨by rw [rt hE C1, eT], C1.2.1.1⟩
  subst eP
  have nT := mulB (a := (n : Int)) (b := T) (A := 64) (B := 2000) (by omega) (by omega)
  have loop : ∀ (r k : Nat) (s : WS) (m : Mem) (c d : Int), k + r = n → (if k % 2 = 0 then c = o1 ∧ d = o2 else c = o2 ∧ d = o1) → MC m0 m i s lf a b → s.1.length + r + 1 ≤ 3600 → (∀ m', MC m0 m' i (apN i (altG (Pk (tm 3) (D.2.1 i)) T c d r ++ [(0, Pk (tm 3) (D.2.1 i) 0, lf - n * T)]) s) lf a b → K none m') →
      smE true 203 3 [some (vR (some (23, 231))), some (vI (iZ o1)), some (vI (iZ o2)), some (vI (iZ n)), some (vI (iZ k))] [] m K := by
    intro r
    induction r with
    | zero =>
      intro k s m c d e hcd hC hlen hh
      refine wp1_ok (by decide) OK_203 (cc := cd_203) rfl (stops := [3]) (f := 30) ?_
      refine And.intro (fun _ => ?_) (fun z => ?_)
      rotate_left
      · rw [iZ_le (by constructor <;> omega) (by constructor <;> omega)] at z
        omega
      refine And.intro trivial (M_puts (kd := 0) (l := lf - n * T) rfl ?_ (by omega) hE hC (by omega) (by omega) (fun m2 C2 => And.intro trivial (hh m2 C2)))
      rw [(hp hC).1, (hp hC).2, iZ_mul, iZ_sub]
      congr 1
      have : (n : Int) * (3 * T) = 3 * (n * T) := by rw [Int.mul_left_comm]
      omega
    | succ r ih =>
      intro k s m c d e hcd hC hlen hh
      refine wp1_ok (by decide) OK_203 (cc := cd_203) rfl (stops := [3]) (f := 30) ?_
      refine And.intro (fun z => ?_) (fun z => ?_)
      · rw [iZ_le (by constructor <;> omega) (by constructor <;> omega)] at z
        omega
      refine And.intro (by decide) ?_
      refine And.intro (fun y => ?_) (fun y => ?_)
      · rw [L2, L0, iZ_rem (by constructor <;> omega) (by decide) (by omega) (by decide), iZ_eq (by constructor <;> omega) (by decide)] at y
        rw [if_neg (by omega)] at hcd
        obtain ⟨rfl, rfl⟩ := hcd
        refine And.intro trivial (M_puts (l := T) rfl (hp hC).1 (by omega) hE hC (by omega) (by omega) (fun m2 C2 => ?_))
        refine And.intro trivial ?_
        rw [L1, iZ_add]
        refine ih (k + 1) _ m2 d c (by omega) (by rw [if_pos (by omega)]; exact ⟨rfl, rfl⟩) C2 ?_ (fun m' C' => hh m' C')
        show s.1.length + 1 + r + 1 ≤ 3600
        omega
      · rw [L2, L0, iZ_rem (by constructor <;> omega) (by decide) (by omega) (by decide), iZ_eq (by constructor <;> omega) (by decide)] at y
        rw [if_pos (by omega)] at hcd
        obtain ⟨rfl, rfl⟩ := hcd
        refine And.intro trivial (M_puts (l := T) rfl (hp hC).1 (by omega) hE hC (by omega) (by omega) (fun m2 C2 => ?_))
        refine And.intro trivial ?_
        rw [L1, iZ_add]
        refine ih (k + 1) _ m2 d c (by omega) (by rw [if_neg (by omega)]; exact ⟨rfl, rfl⟩) C2 ?_ (fun m' C' => hh m' C')
        show s.1.length + 1 + r + 1 ≤ 3600
        omega
  refine smC_wp [some (vR (some (23, 231))), some (vI (iZ o1)), some (vI (iZ o2)), some (vI (iZ n)), none] cd_203 [3] 40 OK_203 (by decide) rfl rfl (Nat.le_of_ble_eq_true rfl) ?_
  exact And.intro trivial (loop n 0 s m o1 o2 (by omega) (by simp) hC hlen h)
theorem M_behUp (hE : ME m0 i tm D) (eP : Pk (tm 3) (D.2.1 i) = P) (hC : MC m0 m i s lf a b) (h1 : buP P s (tm 6) → K (some (vI 1)) m) (h0 : ¬ buP P s (tm 6) → K (some (vI 0)) m) : smC true 199 [vR (some (23, 231))] m K := by
  subst eP
  obtain ⟨he, ⟨htm, hD, hi, hn1⟩, e44, e45, e46, e47, e48⟩ := id hE
  have hlast := lastN_ne hC.2.2.1
  have hok := (Pk_ok (hold := tm 3) (hD.2.1 i hi) hn1).1.2.1
  have E := MC.e3 hE hC
  have g6 : gI m 24 232 (6 : Int32).toNatClampNeg = iZ (tm 6) := E.2.1 6 (by decide)
  have h6 := htm.2.2.2.2.2.2
  have r47 : gI m 23 231 47 = iZ (Pk (tm 3) (D.2.1 i) 1).1 := (hC.rd (by omega)).trans e47
  have r49 := hC.1.2.2.1
  have elk : s.2.1 = true → lastN s = ltN s := fun q => by unfold lastN; rw [q]; rfl
  have sty : ¬ (s.2.1 = true ∧ ltN s = (Pk (tm 3) (D.2.1 i) 1).1) → smE true 199 19 [some (vR (some (23, 231)))] [] m K := by
    intro hn
    refine wp_ok (by decide) OK_199 (cc := cd_199) rfl (stops := []) 30 _ _ _ _ ?_
    refine And.intro (by rw [L6, iZ_in (by decide)]; decide) ?_
    rw [g6]
    refine And.intro (fun z => ?_) (fun z => ?_)
    · rw [L1, iZ_eq (by constructor <;> omega) (by decide)] at z
      exact And.intro (Or.inl rfl) (h0 (by rintro (q | q); exact hn q; exact z q))
    · rw [L1, iZ_eq (by constructor <;> omega) (by decide)] at z
      exact And.intro (Or.inr rfl) (h1 (Or.inr z))
  refine smC_wp [some (vR (some (23, 231)))] cd_199 [19] 40 OK_199 (by decide) rfl rfl (Nat.le_of_ble_eq_true rfl) ?_
  refine And.intro (fun z => ?_) (fun z => ?_)
  · rw [r49, LM1, iZ_eq (by constructor <;> omega) (by decide)] at z
    exact And.intro trivial (sty (fun q => hlast.1.mpr q.1 z))
  · rw [r49, LM1, iZ_eq (by constructor <;> omega) (by decide)] at z
    have hlk := hlast.1.mp z
    refine And.intro (fun y => ?_) (fun y => ?_)
    · rw [r49, r47, iZ_eq (by constructor <;> omega) (by constructor <;> omega)] at y
      exact And.intro (Or.inr rfl) (h1 (Or.inl ⟨hlk, by rw [← elk hlk]; exact y⟩))
    · rw [r49, r47, iZ_eq (by constructor <;> omega) (by constructor <;> omega)] at y
      exact And.intro trivial (sty (fun q => y (by rw [elk hlk]; exact q.2)))
theorem M_less {v : Int} {x : Int32} (hx : x = iZ v) (rv : R32 v) (h : K (some (vI (iZ (lessN v)))) m) : smC true 205 [vI x] m K := by
  subst hx
  refine smC_wp [some (vI (iZ v))] cd_205 [] 40 OK_205 (by decide) rfl rfl (Nat.le_of_ble_eq_true rfl) ?_
  unfold lessN at h
  refine And.intro (fun z => ?_) (fun z => ?_)
  · rw [L3, iZ_eq rv (by decide)] at z
    rw [if_neg z] at h
    exact And.intro trivial h
  · rw [L3, iZ_eq rv (by decide)] at z
    rw [if_pos z] at h
    exact And.intro trivial h
theorem M_mordent (hE : ME m0 i tm D) (eT : wT tm (tm 5) (D.2.1 i) = T) (eP : Pk (tm 3) (D.2.1 i) = P) (rl : 0 ≤ lf ∧ lf ≤ 1000000) (hC : MC m0 m i s lf a b) (hlen : s.1.length + 3 ≤ 3600)
    (h3 : ¬ 3 * T ≤ lf → K (some (vI (iZ 3))) m) (h1 : ∀ m', 3 * T ≤ lf → MC m0 m' i (apN i (shQ P 0 T lf) s) lf a b → K (some (vI (iZ 1))) m') : smC true 206 [vR (some (23, 231))] m K := by
  have hT := hE.Tr
  rw [eT] at hT
  have r45 : gI m 23 231 45 = iZ (3 * T) := by rw [rt hE hC, eT]
  have r51 := hC.2.1.1
  refine smC_wp [some (vR (some (23, 231)))] cd_206 [] 40 OK_206 (by decide) rfl rfl (Nat.le_of_ble_eq_true rfl) ?_
  refine And.intro (fun z => ?_) (fun z => ?_)
  · rw [r45, r51, L3, iZ_mul, iZ_le (by constructor <;> omega) (by constructor <;> omega)] at z
    refine And.intro trivial (M_turns (n := 2) (o1 := 0) (o2 := 2) rfl rfl rfl (by omega) (by omega) hE eT eP (by decide) (by omega) hC (by omega) (fun m' C' => ?_))
    exact And.intro trivial (h1 m' (by omega) C')
  · rw [r45, r51, L3, iZ_mul, iZ_le (by constructor <;> omega) (by constructor <;> omega)] at z
    exact And.intro trivial (h3 (by omega))
theorem M_prall (hE : ME m0 i tm D) (eT : wT tm (tm 5) (D.2.1 i) = T) (eP : Pk (tm 3) (D.2.1 i) = P) {bu : Bool} (hbu : bu = true ↔ buP P s (tm 6)) (rl : 0 ≤ lf ∧ lf ≤ 1000000) (hC : MC m0 m i s lf a b) (hlen : s.1.length + 4 ≤ 3600)
    (h : ∀ m', MC m0 m' i (apN i (prS P T lf bu).2 s) lf a b → K (some (vI (iZ (prS P T lf bu).1))) m') : smC true 204 [vR (some (23, 231))] m K := by
  have hT := hE.Tr
  rw [eT] at hT
  have r45 : gI m 23 231 45 = iZ (3 * T) := by rw [rt hE hC, eT]
  have r51 := hC.2.1.1
  refine smC_wp [some (vR (some (23, 231))), none] cd_204 [] 60 OK_204 (by decide) rfl rfl (Nat.le_of_ble_eq_true rfl) ?_
  refine And.intro trivial (M_behUp hE eP hC (fun q => ?_) (fun q => ?_))
  · have e : bu = true := hbu.mpr q
    subst e
    refine And.intro (fun _ => ?_) (fun z => absurd z (by decide))
    refine And.intro (fun z => ?_) (fun z => ?_)
    · rw [r45, r51, L3, iZ_mul, iZ_le (by constructor <;> omega) (by constructor <;> omega)] at z
      have e2 : prS P T lf true = (1, shQ P 4 T lf) := by unfold prS; rw [if_pos rfl, if_pos (by omega)]
      rw [e2] at h
      refine And.intro trivial (M_turns (n := 2) (o1 := 0) (o2 := 1) rfl rfl rfl (by omega) (by omega) hE eT eP (by decide) (by omega) hC (by omega) (fun m' C' => ?_))
      refine And.intro (fun z => absurd z (by decide)) (fun _ => ?_)
      exact And.intro trivial (h m' C')
    · rw [r45, r51, L3, iZ_mul, iZ_le (by constructor <;> omega) (by constructor <;> omega)] at z
      have e2 : prS P T lf true = (3, []) := by unfold prS; rw [if_pos rfl, if_neg (by omega)]
      rw [e2] at h
      exact And.intro trivial (h m hC)
  · have e : bu = false := by cases bu with | false => rfl | true => exact absurd (hbu.mp rfl) q
    subst e
    refine And.intro (fun z => absurd rfl z) (fun _ => ?_)
    refine And.intro (fun y => ?_) (fun y => ?_)
    · rw [r45, r51, L4, iZ_mul, iZ_lt (by constructor <;> omega) (by constructor <;> omega)] at y
      refine And.intro (fun z => ?_) (fun z => ?_)
      · rw [r45, r51, L3, iZ_mul, iZ_le (by constructor <;> omega) (by constructor <;> omega)] at z
        have e2 : prS P T lf false = (2, shQ P 4 T lf) := by unfold prS; rw [if_neg (by decide), if_neg (by omega), if_pos (by omega)]
        rw [e2] at h
        refine And.intro trivial (M_turns (n := 2) (o1 := 0) (o2 := 1) rfl rfl rfl (by omega) (by omega) hE eT eP (by decide) (by omega) hC (by omega) (fun m' C' => ?_))
        refine And.intro (fun _ => ?_) (fun z => absurd rfl z)
        exact And.intro trivial (h m' C')
      · rw [r45, r51, L3, iZ_mul, iZ_le (by constructor <;> omega) (by constructor <;> omega)] at z
        have e2 : prS P T lf false = (3, []) := by unfold prS; rw [if_neg (by decide), if_neg (by omega), if_neg (by omega)]
        rw [e2] at h
        exact And.intro trivial (h m hC)
    · rw [r45, r51, L4, iZ_mul, iZ_lt (by constructor <;> omega) (by constructor <;> omega)] at y
      have e2 : prS P T lf false = (1, shQ P 5 T lf) := by unfold prS; rw [if_neg (by decide), if_pos (by omega)]
      rw [e2] at h
      refine And.intro trivial (M_turns (n := 3) (o1 := 1) (o2 := 0) rfl rfl rfl (by omega) (by omega) hE eT eP (by decide) (by omega) hC (by omega) (fun m' C' => ?_))
      exact And.intro trivial (h m' C')
end MTU
