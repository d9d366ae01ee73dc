/-! SHAPES -/
def shI : Nat → List Int
  | 0 => [0, 2]
  | 1 => [1, 0, 2]
  | 2 => [2, 0, 1]
  | 3 => [0, 2, 0, 2]
  | 4 => [0, 1]
  | 5 => [1, 0, 1]
  | _ => []
theorem shI_st : ∀ c : Nat, c < 6 → stI c = (shI c ++ [0]).map iZ := by decide +kernel
theorem shI_k : ∀ c : Nat, c < 6 → ∀ k ∈ shI c, k = 0 ∨ k = 1 ∨ k = 2 := by decide
theorem shI_n : ∀ c : Nat, c < 6 → 2 ≤ (shI c).length ∧ (shI c).length ≤ 4 := by decide
def shQ (P : Int → Int × Int) (c : Nat) (e lf : Int) : List Pl := (shI c).map (fun k => (k, P k, e)) ++ [(0, P 0, lf - (shI c).length * e)]
section SHAPE
variable {m0 m : Mem} {K : Option SV → Mem → Prop} {sc i nn cap : Nat} {kp b : Bool} {T lf o a : Int} {P : Int → Int × Int} {s : WS}
theorem shape_loop (hE : EW m0 sc i nn T P) {c : Nat} (hc6 : c < 6) {e w : Int} (he : 1 ≤ e ∧ e ≤ 1000000) (hw : 1 ≤ w ∧ w ≤ 1000000) : ∀ (r d : List Int) (m : Mem) (s : WS) (lf : Int), shI c = d ++ r → CW m0 sc i kp cap m s lf o a b → s.1.length + r.length + 1 ≤ cap → lf = w + r.length * e →
    (∀ m', CW m0 sc i kp cap m' (apN i (r.map (fun k => (k, P k, e)) ++ [(0, P 0, w)]) s) w o a b → K (some (vI 1)) m') →
    smE true 80 15 [some (vR (some (4, 4))), some (vR (some (60, c))), some (vI (iZ e)), some (vI (iZ d.length))] [] m K := by
  have hsn := shI_n c hc6
  have hst := shI_st c hc6
  have hlen : (stI c).length = (shI c).length + 1 := by rw [hst]; simp
  intro r
  induction r with
  | nil =>
    intro d m s lf hd hC hcap hlf h
    have hdl : d.length = (shI c).length := by rw [hd]; simp
    refine wp1_ok (by decide) OK_80 (cc := cd_80) rfl (stops := [15]) (f := 40) ?_
    refine And.intro (fun z => ?_) (fun z => ?_)
    · refine Exists.intro _ (And.intro (rdS hE hC) ?_)
      refine Exists.intro _ (And.intro (rdN hE hC) ?_)
      have hlf : lf = w := by simpa using hlf
      subst hlf
      refine And.intro trivial (c_add (p := P 0) (l := lf) (rdI hE hC) L0 ((rd8 hC _ _).trans hE.2.2.2.1) hC.2.1.1 hC hE.2.2.2.2.2.1.1 hw (by simp at hcap; omega) (fun m' C' => ?_))
      refine And.intro (Or.inr rfl) (h m' C')
    · rw [L1, iZ_add, iZ_nI, hlen, iZ_le (by constructor <;> omega) (by constructor <;> omega)] at z
      omega
  | cons k r ih =>
    intro d m s lf hd hC hcap hlf h
    have hdl : d.length + r.length + 1 = (shI c).length := by rw [hd]; simp; omega
    have hk := shI_k c hc6 k (by rw [hd]; simp)
    have hstk : stT 60 c d.length = iZ k := by
      show (stI c).getD d.length 0 = iZ k
      rw [hst, hd]; simp
    have hP : gI m 17 26 k.toNat = iZ (pit (P k).1 (P k).2) ∧ okP (P k) := by
      rw [rd17 hC]
      rcases hk with rfl | rfl | rfl
      · exact ⟨hE.2.2.1.1, hE.2.2.2.2.2.1.1⟩
      · exact ⟨hE.2.2.1.2.1, hE.2.2.2.2.2.1.2.1⟩
      · exact ⟨hE.2.2.1.2.2.1, hE.2.2.2.2.2.1.2.2.1⟩
    have ed : (iZ (d.length : Int)).toNatClampNeg = d.length := by rw [iZ_clamp (by constructor <;> omega)]; omega
    refine wp1_ok (by decide) OK_80 (cc := cd_80) rfl (stops := [15]) (f := 40) ?_
    refine And.intro (fun z => ?_) (fun z => ?_)
    · rw [L1, iZ_add, iZ_nI, hlen, iZ_le (by constructor <;> omega) (by constructor <;> omega)] at z
      omega
    refine Exists.intro _ (And.intro (rdS hE hC) ?_)
    have hin : vp_in (iZ (d.length : Int)) (stI c).length := (iZ_in (by constructor <;> omega)).mpr (by omega)
    refine And.intro hin ?_
    refine And.intro hin ?_
    rw [ed, hstk]
    refine And.intro ((iZ_in (by constructor <;> omega)).mpr (by show 0 ≤ k ∧ k < 5; omega)) ?_
    refine And.intro trivial (c_add (p := P k) (rdI hE hC) rfl ?_ rfl hC hP.2 he (by simp at hcap; omega) (fun m' C' => ?_))
    · rw [iZ_clamp (by constructor <;> omega)]; exact hP.1
    refine And.intro trivial ?_
    rw [L1, iZ_add, show ((d.length : Int) + 1) = (((d ++ [k]).length : Nat) : Int) by simp]
    have C2 := C'.left (v := lf - e) (x := gI m' 4 4 11 - iZ e) (by rw [C'.2.1.1, iZ_sub])
    refine ih (d ++ [k]) _ _ (lf - e) (by rw [hd]; simp) C2 (by simp only [plN, List.length_cons] at hcap ⊢; omega) ?_ h
    rw [hlf]; simp only [List.length_cons]
    rw [show ((r.length + 1 : Nat) : Int) * e = r.length * e + e by rw [Int.natCast_add, Int.add_mul]; simp]
    omega
theorem c_playShape (hE : EW m0 sc i nn T P) {c n : Nat} {e : Int} {x : Int32} (hx : x = iZ e) (hc6 : c < 6) (hn : (shI c).length + 1 = n) (he : 1 ≤ e ∧ e ≤ 400000) (hlf : 0 ≤ lf ∧ lf ≤ 1000000) (hC : CW m0 sc i kp cap m s lf o a b) (hcap : s.1.length + n ≤ cap)
    (h0 : lf < n * e → K (some (vI 0)) m)
    (h1 : n * e ≤ lf → ∀ m', CW m0 sc i kp cap m' (apN i (shQ P c e lf) s) (lf - (shI c).length * e) o a b → K (some (vI 1)) m') : smC true 80 [vR (some (4, 4)), vR (some (60, c)), vI x] m K := by
  subst hx
  have hsn := shI_n c hc6
  have hlen : (stI c).length = n := by rw [shI_st c hc6]; simp; omega
  have b1 := mulB (show (0 : Int) ≤ (n : Int) ∧ (n : Int) ≤ 5 by omega) (show (0 : Int) ≤ e ∧ e ≤ 400000 by omega)
  refine smC_wp [some (vR (some (4, 4))), some (vR (some (60, c))), some (vI (iZ e)), none] cd_80 [15] 40 OK_80 (by decide) rfl rfl (Nat.le_of_ble_eq_true rfl) ?_
  refine And.intro (fun z => ?_) (fun z => ?_)
  · rw [iZ_nI, hlen, iZ_mul, hC.2.1.1, iZ_le (by constructor <;> omega) (by constructor <;> omega)] at z
    have e2 : (n : Int) * e = (shI c).length * e + e := by rw [← hn, Int.natCast_add, Int.add_mul]; simp
    have b2 := mulB (show (0 : Int) ≤ ((shI c).length : Int) ∧ ((shI c).length : Int) ≤ 4 by omega) (show (0 : Int) ≤ e ∧ e ≤ 400000 by omega)
    exact And.intro trivial (shape_loop hE hc6 (w := lf - (shI c).length * e) (by omega) (by omega) (shI c) [] m s lf rfl hC (by omega) (by omega) (h1 z))
  · rw [iZ_nI, hlen, iZ_mul, hC.2.1.1, iZ_le (by constructor <;> omega) (by constructor <;> omega)] at z
    exact And.intro (Or.inl rfl) (h0 (by omega))
theorem c_behUp (hE : EW m0 sc i nn T P) {sty : Int} (hs : gI m0 5 5 6 = iZ sty) (rs : 0 ≤ sty ∧ sty ≤ 1) (hC : CW m0 sc i kp cap m s lf o a b)
    (h1 : (s.2.1 = true ∧ ltN s = (P 1).1) ∨ sty = 1 → K (some (vI 1)) m) (h0 : ¬ ((s.2.1 = true ∧ ltN s = (P 1).1) ∨ sty = 1) → K (some (vI 0)) m) : smC true 75 [vR (some (4, 4))] m K := by
  have es : gI m 5 5 6 = iZ sty := (rd5 hC _ _).trans hs
  have hlk := hC.1.2.1
  have hP1 := hE.2.2.2.2.2.1.2.1
  have e1 : gI m 17 26 1 = iZ (pit (P 1).1 (P 1).2) := (rd17 hC _ _).trans hE.2.2.1.2.1
  have rest : ∀ v : Int32, (v = 1 ∧ (s.2.1 = true ∧ ltN s = (P 1).1)) ∨ (v = 0 ∧ ¬ (s.2.1 = true ∧ ltN s = (P 1).1)) → smE true 75 37 [some (vR (some (4, 4))), none] [vI v] m K := by
    intro v hv
    refine wp_ok (by decide) OK_75 (cc := cd_75) rfl (stops := []) 40 _ _ _ _ ?_
    rcases hv with ⟨rfl, hv⟩ | ⟨rfl, hv⟩
    · refine And.intro (fun _ => ?_) (fun z => absurd z (by decide))
      exact And.intro (Or.inr rfl) (h1 (Or.inl hv))
    · refine And.intro (fun z => absurd rfl z) (fun _ => ?_)
      refine And.intro (by rw [L6, iZ_in (by decide)]; decide) ?_
      refine And.intro (fun z => ?_) (fun z => ?_)
      · have z : ¬ gI m 5 5 6 = 1 := z
        rw [es, L1, iZ_eq (by constructor <;> omega) (by decide)] at z
        exact And.intro (Or.inl rfl) (h0 (fun q => q.elim hv z))
      · have z : gI m 5 5 6 = 1 := z
        rw [es, L1, iZ_eq (by constructor <;> omega) (by decide)] at z
        exact And.intro (Or.inr rfl) (h1 (Or.inr z))
  refine smC_wp [some (vR (some (4, 4))), none] cd_75 [37] 40 OK_75 (by decide) rfl rfl (Nat.le_of_ble_eq_true rfl) ?_
  refine Exists.intro _ (And.intro (rdS hE hC) ?_)
  refine And.intro (fun y => ?_) (fun y => ?_)
  · have hk : s.2.1 ≠ true := fun q => by rw [q] at hlk; exact absurd (hlk.symm.trans y) (by decide)
    exact And.intro trivial (rest 0 (Or.inr ⟨rfl, fun q => hk q.1⟩))
  have hk : s.2.1 = true := by
    cases q : s.2.1 with
    | true => rfl
    | false => rw [q] at hlk; exact absurd hlk y
  obtain ⟨t, ts, q1, q2, q3, q4⟩ := lk_ne hC hk
  have el : ltN s = t.2.1 := by unfold ltN; rw [q1]
  refine Exists.intro _ (And.intro (rdS hE hC) ?_)
  refine And.intro trivial (c_num q3 (by omega) (by omega) ?_)
  refine And.intro (by rw [L1, iZ_in (by decide)]; decide) ?_
  refine And.intro trivial (c_num e1 (by omega) (by omega) ?_)
  refine And.intro (fun z => ?_) (fun z => ?_)
  · rw [iZ_eq (by constructor <;> omega) (by constructor <;> omega)] at z
    exact And.intro trivial (rest 0 (Or.inr ⟨rfl, fun q => z (el ▸ q.2)⟩))
  · rw [iZ_eq (by constructor <;> omega) (by constructor <;> omega)] at z
    exact And.intro trivial (rest 1 (Or.inl ⟨rfl, hk, el.trans z⟩))
end SHAPE
