/-! PREFIXES: graces ahead or of the note, the slide -/
section GRACES
variable {m0 m : Mem} {K : Option SV → Mem → Prop} {sc i nn cap : Nat} {kp b : Bool} {T lf o a : Int} {P : Int → Int × Int} {s : WS} {g : Nat → Int × Int}
theorem lk_ne (hC : CW m0 sc i kp cap m s lf o a b) (h : s.2.1 = true) : ∃ t ts, s.1 = t :: ts ∧ okT t ∧ gI m 6 sc 8 = iZ (pit t.2.1 t.2.2.1) ∧ gI m 6 sc 9 = iZ t.2.2.2.2.2 := by
  have hn := hC.2.2.1.1 h
  cases hs : s.1 with
  | nil => exact absurd hs hn
  | cons t ts =>
    have := hC.1.2.2 t (by rw [hs]; rfl)
    exact ⟨t, ts, rfl, hC.2.2.1.2 t (by rw [hs]; exact List.mem_cons_self), this.1, this.2⟩
theorem WOK.sh {d : Int} (h : WOK s) (hd : 0 ≤ d ∧ d < ltL s) : WOK (shN d s) := by
  obtain ⟨l, k, c⟩ := s
  cases l with
  | nil => exact ⟨h.1, h.2⟩
  | cons t ts =>
    have hd : 0 ≤ d ∧ d < t.2.2.2.2.2 := hd
    refine ⟨fun _ => by simp [shN], fun t' ht => ?_⟩
    simp only [shN, List.mem_cons] at ht
    rcases ht with rfl | ht
    · have := h.2 t List.mem_cons_self
      refine ⟨this.1, ?_, ?_⟩ <;> simp only <;> omega
    · exact h.2 t' (List.mem_cons_of_mem _ ht)
theorem c_sh {d : Int} {x : Int32} (hx : x = iZ d) (hC : CW m0 sc i kp cap m s lf o a b) (hd : 0 ≤ d ∧ d < ltL s)
    (h : ∀ m', CW m0 sc i kp cap m' (shN d s) lf o a b → K none m') : smC true 45 [vR (some (6, sc)), vI x] m K := by
  obtain ⟨l, k, c⟩ := s
  cases l with
  | nil => exact absurd hd.2 (by show ¬ d < 0; omega)
  | cons t ts =>
    obtain ⟨t1, t2, t3, t4, t5, t6⟩ := t
    exact c_shorten hx hC.1 (fun m' hR hF => h m' (hC.up (s' := shN d _) hR hF (hC.2.2.1.sh hd)))
theorem shN_len (d : Int) (s : WS) : (shN d s).1.length = s.1.length := by
  obtain ⟨l, k, c⟩ := s
  cases l <;> rfl
theorem playGraces_loop (hE : EW m0 sc i nn T P) {mn : Nat} (hg : ∀ j, j < mn → gI m0 9 (nn + 1) j = iZ (pit (g j).1 (g j).2) ∧ okP (g j)) {L : Int} (hL : gI m0 8 nn 2 = iZ L) (rL : 1 ≤ L ∧ L ≤ 1000000) (hmn : mn ≤ 4) (hC : CW m0 sc i kp cap m s lf o a b) (hc : s.1.length + mn ≤ cap)
    (h : ∀ m', CW m0 sc i kp cap m' (apN i (grQ g T (mn - plK T L mn) (plK T L mn)) s) (lf - plK T L mn * T) (plK T L mn * T) a b → K (some (vI (if plK T L mn = mn then 1 else if plK T L mn = 0 then 3 else 2))) m') : ∀ k, k ≤ mn → plK T L k = plK T L mn →
    smE true 72 83 [some (vR (some (4, 4))), some (vI (iZ mn)), some (vI (iZ k))] [] m K := by
  have hT := hE.Tr
  have fin : ∀ q : Nat, q ≤ mn → q = plK T L mn → smE true 72 111 [some (vR (some (4, 4))), some (vI (iZ mn)), some (vI (iZ q))] [] m K := by
    intro q hq e
    rw [← e] at h
    refine wp_ok (by decide) OK_72 (cc := cd_72) rfl (stops := []) 40 _ _ _ _ ?_
    refine And.intro trivial (c_take (t := q * T) (by rw [rdT hE hC, iZ_mul]) hE hC (fun m1 h1 => ?_))
    refine And.intro trivial (c_addGraces (j := mn - q) (n := q) (l := T) ?_ ?_ (rdT hE h1) hE hmn hg (by omega) (by omega) h1 (by omega) (fun m2 h2 => ?_))
    · rw [iZ_sub]; congr 1; omega
    · congr 1; omega
    have h := h m2 h2
    refine And.intro (fun z => ?_) (fun z => ?_)
    · rw [iZ_eq (by constructor <;> omega) (by constructor <;> omega)] at z
      rw [if_neg (by omega)] at h
      refine And.intro (fun w => ?_) (fun w => ?_)
      · rw [L0, iZ_le (by constructor <;> omega) (by decide)] at w
        rw [if_pos (by omega)] at h
        exact And.intro trivial h
      · rw [L0, iZ_le (by constructor <;> omega) (by decide)] at w
        rw [if_neg (by omega)] at h
        exact And.intro trivial h
    · rw [iZ_eq (by constructor <;> omega) (by constructor <;> omega)] at z
      rw [if_pos (by omega)] at h
      exact And.intro trivial h
  intro k
  induction k with
  | zero =>
    intro hk e
    refine wp1_ok (by decide) OK_72 (cc := cd_72) rfl (stops := [83, 111]) (f := 30) ?_
    refine And.intro (fun z => And.intro trivial (fin 0 hk e)) (fun z => absurd (by decide) z)
  | succ k ih =>
    intro hk e
    have b1 := mulB (show (0 : Int) ≤ 2 * ((k + 1 : Nat) : Int) ∧ 2 * ((k + 1 : Nat) : Int) ≤ 8 by omega) (show (0 : Int) ≤ T ∧ T ≤ 2000 by omega)
    refine wp1_ok (by decide) OK_72 (cc := cd_72) rfl (stops := [83, 111]) (f := 30) ?_
    refine And.intro (fun z => ?_) (fun z => ?_)
    · rw [L0, iZ_le (by constructor <;> omega) (by decide)] at z
      omega
    refine Exists.intro _ (And.intro (rdN hE hC) ?_)
    refine And.intro (fun z => ?_) (fun z => ?_)
    · rw [rdT hE hC, rd8 hC, hL, L2, iZ_mul, iZ_mul, iZ_le (by constructor <;> omega) (by constructor <;> omega)] at z
      refine And.intro trivial (fin (k + 1) hk ?_)
      rw [← e]; unfold plK; rw [if_neg (by omega)]
    · rw [rdT hE hC, rd8 hC, hL, L2, iZ_mul, iZ_mul, iZ_le (by constructor <;> omega) (by constructor <;> omega)] at z
      refine And.intro trivial ?_
      rw [LM1, iZ_add]
      have e2 : (((k + 1 : Nat) : Int) + -1) = (k : Int) := by omega
      rw [e2]
      refine ih (by omega) ?_
      rw [← e]
      conv => rhs; unfold plK
      rw [if_pos (by omega)]
theorem c_playGraces (hE : EW m0 sc i nn T P) {mn : Nat} (hg : ∀ j, j < mn → gI m0 9 (nn + 1) j = iZ (pit (g j).1 (g j).2) ∧ okP (g j)) {L ah : Int} (hah : gI m0 5 5 2 = iZ ah) (rah : 0 ≤ ah ∧ ah ≤ 1) (hL : gI m0 8 nn 2 = iZ L) (rL : 1 ≤ L ∧ L ≤ 1000000) {x : Int32} (hx : x = iZ mn) (h1m : 1 ≤ mn) (hmn : mn ≤ 4) (hC : CW m0 sc i kp cap m s lf o a b) (hc : s.1.length + mn ≤ cap)
    (h1 : ah = 1 ∧ s.2.1 = true ∧ 2 * (mn : Int) * T ≤ ltL s → ∀ m', CW m0 sc i kp cap m' (apN i (grQ g T 0 mn) (shN (mn * T) s)) lf o (mn * T) b → K (some (vI 1)) m')
    (h2 : ¬ (ah = 1 ∧ s.2.1 = true ∧ 2 * (mn : Int) * T ≤ ltL s) → ∀ m', CW m0 sc i kp cap m' (apN i (grQ g T (mn - plK T L mn) (plK T L mn)) s) (lf - plK T L mn * T) (plK T L mn * T) a b → K (some (vI (if plK T L mn = mn then 1 else if plK T L mn = 0 then 3 else 2))) m') :
    smC true 72 [vR (some (4, 4)), vI x] m K := by
  subst hx
  have hT := hE.Tr
  have hi := hE.ir
  refine smC_wp [some (vR (some (4, 4))), some (vI (iZ mn)), none] cd_72 [83] 80 OK_72 (by decide) rfl rfl (Nat.le_of_ble_eq_true rfl) ?_
  refine And.intro (by rw [L2, iZ_in (by decide)]; decide) ?_
  have ea : gI m 5 5 2 = iZ ah := (rd5 hC _ _).trans hah
  refine And.intro (fun z => ?_) (fun z => ?_)
  · have z : ¬ gI m 5 5 2 = 1 := z
    rw [ea, L1, iZ_eq (by constructor <;> omega) (by decide)] at z
    exact And.intro trivial (playGraces_loop hE hg hL rL hmn hC hc (h2 (fun q => z q.1)) mn (Nat.le_refl _) rfl)
  have z : gI m 5 5 2 = 1 := z
  rw [ea, L1, iZ_eq (by constructor <;> omega) (by decide)] at z
  refine Exists.intro _ (And.intro (rdS hE hC) ?_)
  have hlk := hC.1.2.1
  refine And.intro (fun y => ?_) (fun y => ?_)
  · have hk : s.2.1 ≠ true := fun q => by rw [q] at hlk; exact absurd (hlk.symm.trans y) (by decide)
    exact And.intro trivial (playGraces_loop hE hg hL rL hmn hC hc (h2 (fun q => hk q.2.1)) mn (Nat.le_refl _) rfl)
  have hk : s.2.1 = true := by
    cases q : s.2.1 with
    | true => rfl
    | false => rw [q] at hlk; exact absurd hlk y
  obtain ⟨t, ts, e1, e2, e3, e4⟩ := lk_ne hC hk
  have el : ltL s = t.2.2.2.2.2 := by unfold ltL; rw [e1]
  have b1 := mulB (show (0 : Int) ≤ 2 * (mn : Int) ∧ 2 * (mn : Int) ≤ 8 by omega) (show (0 : Int) ≤ T ∧ T ≤ 2000 by omega)
  have b2 := mulB (show (0 : Int) ≤ (mn : Int) ∧ (mn : Int) ≤ 4 by omega) (show (0 : Int) ≤ T ∧ T ≤ 2000 by omega)
  have b3 : 2 * (mn : Int) * T = 2 * (mn * T) := by rw [Int.mul_assoc]
  have b4 : 1 * 1 ≤ (mn : Int) * T := Int.mul_le_mul (by omega) (by omega) (by omega) (by omega)
  refine Exists.intro _ (And.intro (rdS hE hC) ?_)
  refine And.intro (fun w => ?_) (fun w => ?_)
  · rw [rdT hE hC, e4, L2, iZ_mul, iZ_mul, iZ_lt (by constructor <;> omega) (by constructor <;> omega)] at w
    exact And.intro trivial (playGraces_loop hE hg hL rL hmn hC hc (h2 (fun q => by omega)) mn (Nat.le_refl _) rfl)
  rw [rdT hE hC, e4, L2, iZ_mul, iZ_mul, iZ_lt (by constructor <;> omega) (by constructor <;> omega)] at w
  refine Exists.intro _ (And.intro (rdS hE hC) ?_)
  refine And.intro trivial (c_sh (d := mn * T) (by rw [rdT hE hC, iZ_mul]) hC (by omega) (fun m1 C1 => ?_))
  refine Exists.intro _ (And.intro (rdS hE C1) ?_)
  refine And.intro (by rw [rdI hE C1]; exact (iZ_in (by constructor <;> omega)).mpr (by show 0 ≤ (i : Int) ∧ (i : Int) < 48; omega)) ?_
  have C2 : CW m0 sc i kp cap (sI m1 16 (sc + 5) (gI m1 4 4 7).toNatClampNeg (iZ mn * gI m1 4 4 10)) (shN (mn * T) s) lf o (mn * T) b := by
    rw [rdT hE C1, rdI hE C1, iZ_clamp (by constructor <;> omega), iZ_mul]
    exact C1.ahd
  refine And.intro trivial (c_addGraces (j := 0) (n := mn) (l := T) (x2 := iZ mn) L0 (by congr 1; omega) (rdT hE C2) hE hmn hg (by omega) (by omega) C2 (by rw [shN_len]; exact hc) (fun m3 C3 => ?_))
  exact And.intro trivial (h1 ⟨by omega, hk, by omega⟩ m3 C3)
theorem c_playSlide (hE : EW m0 sc i nn T P) {L : Int} (hL : gI m0 8 nn 2 = iZ L) (rL : 1 ≤ L ∧ L ≤ 1000000) (hC : CW m0 sc i kp cap m s lf o a b) (hc : s.1.length + 2 ≤ cap)
    (h3 : L < 2 * T → K (some (vI 3)) m)
    (h2 : 2 * T ≤ L → L < 4 * T → ∀ m', CW m0 sc i kp cap m' (apN i [(2, P 2, T)] s) (lf - T) T a b → K (some (vI 2)) m')
    (h1 : 4 * T ≤ L → ∀ m', CW m0 sc i kp cap m' (apN i [(4, P 4, T), (2, P 2, T)] s) (lf - 2 * T) (2 * T) a b → K (some (vI 1)) m') :
    smC true 70 [vR (some (4, 4))] m K := by
  have hT := hE.Tr
  refine smC_wp [some (vR (some (4, 4))), none] cd_70 [] 70 OK_70 (by decide) rfl rfl (Nat.le_of_ble_eq_true rfl) ?_
  refine Exists.intro _ (And.intro (rdN hE hC) ?_)
  refine And.intro (fun z => ?_) (fun z => ?_)
  · rw [rdT hE hC, rd8 hC, hL, L2, iZ_mul, iZ_le (by constructor <;> omega) (by constructor <;> omega)] at z
    refine Exists.intro _ (And.intro (rdN hE hC) ?_)
    refine And.intro (fun w => ?_) (fun w => ?_)
    · rw [rdT hE hC, rd8 hC, hL, L4, iZ_mul, iZ_lt (by constructor <;> omega) (by constructor <;> omega)] at w
      refine And.intro (fun _ => ?_) (fun q => absurd rfl q)
      refine And.intro trivial (c_play hE L2 (rdT hE hC) (by decide) hC (by omega) (by omega) (fun m1 C1 => ?_))
      refine And.intro (fun _ => ?_) (fun q => absurd rfl q)
      refine And.intro trivial (c_take (rdT hE C1) hE C1 (fun m2 C2 => ?_))
      refine And.intro (fun _ => ?_) (fun q => absurd rfl q)
      exact And.intro trivial (h2 z w m2 C2)
    · rw [rdT hE hC, rd8 hC, hL, L4, iZ_mul, iZ_lt (by constructor <;> omega) (by constructor <;> omega)] at w
      refine And.intro (fun q => absurd q (by decide)) (fun _ => ?_)
      refine And.intro trivial (c_play hE L4 (rdT hE hC) (by decide) hC (by omega) (by omega) (fun m1 C1 => ?_))
      refine And.intro trivial (c_play hE L2 (rdT hE C1) (by decide) C1 (by omega) (by simp only [plN, List.length_cons]; omega) (fun m1 C1 => ?_))
      refine And.intro (fun q => absurd q (by decide)) (fun _ => ?_)
      refine And.intro trivial (c_take (t := 2 * T) (by rw [rdT hE C1, L2, iZ_mul]) hE C1 (fun m2 C2 => ?_))
      refine And.intro (fun q => absurd q (by decide)) (fun _ => ?_)
      exact And.intro trivial (h1 (by omega) m2 C2)
  · rw [rdT hE hC, rd8 hC, hL, L2, iZ_mul, iZ_le (by constructor <;> omega) (by constructor <;> omega)] at z
    exact And.intro trivial (h3 (by omega))
end GRACES
