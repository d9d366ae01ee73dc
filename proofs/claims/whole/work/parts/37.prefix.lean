/-! PREFIXES -/
abbrev Pl := Int × (Int × Int) × Int
def apN (i : Nat) : List Pl → WS → WS
  | [], s => s
  | x :: q, s => apN i q (plN i x.1 x.2.1 x.2.2 s)
theorem apN_app (i : Nat) : ∀ (q r : List Pl) (s : WS), apN i (q ++ r) s = apN i r (apN i q s)
  | [], _, _ => rfl
  | x :: q, r, s => apN_app i q r _
theorem apN_len (i : Nat) : ∀ (q : List Pl) (s : WS), (apN i q s).1.length = s.1.length + q.length
  | [], s => rfl
  | x :: q, s => by rw [apN, apN_len i q]; simp only [plN, List.length_cons]; omega
def ltL (s : WS) : Int := match s.1 with | [] => 0 | t :: _ => t.2.2.2.2.2
def ltN (s : WS) : Int := match s.1 with | [] => -1 | t :: _ => t.2.1
def grQ (g : Nat → Int × Int) (l : Int) : Nat → Nat → List Pl
  | _, 0 => []
  | j, n + 1 => (3, g j, l) :: grQ g l (j + 1) n
theorem grQ_len (g : Nat → Int × Int) (l : Int) : ∀ (n j : Nat), (grQ g l j n).length = n
  | 0, _ => rfl
  | n + 1, j => by rw [grQ, List.length_cons, grQ_len g l n]
def plK (T L : Int) : Nat → Nat
  | 0 => 0
  | k + 1 => if 2 * ((k + 1 : Nat) : Int) * T > L then plK T L k else k + 1
theorem plK_le (T L : Int) : ∀ k, plK T L k ≤ k
  | 0 => Nat.le_refl _
  | k + 1 => by unfold plK; split; exact Nat.le_succ_of_le (plK_le T L k); exact Nat.le_refl _
theorem plK_fit {T L : Int} (hL : 0 ≤ L) : ∀ k, 2 * (plK T L k : Int) * T ≤ L
  | 0 => by simp [plK]; exact hL
  | k + 1 => by unfold plK; split; exact plK_fit hL k; omega
section PREFIX
variable {m0 m : Mem} {K : Option SV → Mem → Prop} {sc i nn cap : Nat} {kp b : Bool} {T lf o a : Int} {P : Int → Int × Int} {s : WS} {g : Nat → Int × Int}
theorem rd8 (hC : CW m0 sc i kp cap m s lf o a b) (n k : Nat) : gI m 8 n k = gI m0 8 n k := rd_n hC (by decide) (by decide) (by decide) (by decide) (by omega)
theorem rd9 (hC : CW m0 sc i kp cap m s lf o a b) (n k : Nat) : gI m 9 n k = gI m0 9 n k := rd_n hC (by decide) (by decide) (by decide) (by decide) (by omega)
theorem rd5 (hC : CW m0 sc i kp cap m s lf o a b) (n k : Nat) : gI m 5 n k = gI m0 5 n k := rd_n hC (by decide) (by decide) (by decide) (by decide) (by omega)
theorem rd17 (hC : CW m0 sc i kp cap m s lf o a b) (n k : Nat) : gI m 17 n k = gI m0 17 n k := rd_n hC (by decide) (by decide) (by decide) (by decide) (by omega)
theorem rdT (hE : EW m0 sc i nn T P) (hC : CW m0 sc i kp cap m s lf o a b) : gI m 4 4 10 = iZ T := (rd_n hC (by decide) (by decide) (by decide) (by decide) (by omega)).trans hE.2.1.2
theorem rdI (hE : EW m0 sc i nn T P) (hC : CW m0 sc i kp cap m s lf o a b) : gI m 4 4 7 = iZ i := (rd_n hC (by decide) (by decide) (by decide) (by decide) (by omega)).trans hE.2.1.1
theorem rdS (hE : EW m0 sc i nn T P) (hC : CW m0 sc i kp cap m s lf o a b) : gP m 4 4 5 = some (6, sc) := (rd_P hC).trans hE.1.1
theorem rdN (hE : EW m0 sc i nn T P) (hC : CW m0 sc i kp cap m s lf o a b) : gP m 4 4 8 = some (8, nn) := (rd_P hC).trans hE.1.2
theorem EW.Tr (hE : EW m0 sc i nn T P) : 8 ≤ T ∧ T ≤ 2000 := hE.2.2.2.2.1.2
theorem EW.ir (hE : EW m0 sc i nn T P) : i < 48 := hE.2.2.2.2.1.1
/-- stores of the writer itself -/
theorem CW.left {v : Int} {x : Int32} (hC : CW m0 sc i kp cap m s lf o a b) (hx : x = iZ v) : CW m0 sc i kp cap (sI m 4 4 11 x) s v o a b := by
  subst hx
  have e : ∀ t n k, t ≠ 4 → gI (sI m 4 4 11 (iZ v)) t n k = gI m t n k := fun t n k h => by rw [gI_s, if_neg (by omega)]
  obtain ⟨⟨⟨r0, r1, r2, r3, r4⟩, r5, r6⟩, ⟨h1, h2, h3, h4⟩, hW, hF⟩ := hC
  refine ⟨⟨⟨(e _ _ _ (by decide)).trans r0, (e _ _ _ (by decide)).trans r1, (e _ _ _ (by decide)).trans r2, ?_, r4⟩, (e _ _ _ (by decide)).trans r5, fun t ht => ?_⟩, ⟨?_, (e _ _ _ (by decide)).trans h2, (e _ _ _ (by decide)).trans h3, ?_⟩, hW, hF.tr (Fr.st (by unfold AW; omega))⟩
  · intro hk
    obtain ⟨a1, a2, a3, a4, r, q1, q2, q3⟩ := r3 hk
    exact ⟨a1, a2, a3, a4, r, RowsOK.kept rfl q1, q2, RV_keep (fun x k _ => e _ _ _ (by decide)) q3⟩
  · rw [e _ _ _ (by decide), e _ _ _ (by decide)]; exact r6 t ht
  · rw [gI_s, if_pos ⟨rfl, rfl, rfl⟩]
  · rw [gI_s, if_neg (by omega)]; exact h4
theorem CW.played (hC : CW m0 sc i kp cap m s lf o a b) : CW m0 sc i kp cap (sI m 4 4 13 1) s lf o a true := by
  have e : ∀ t n k, t ≠ 4 → gI (sI m 4 4 13 1) t n k = gI m t n k := fun t n k h => by rw [gI_s, if_neg (by omega)]
  obtain ⟨⟨⟨r0, r1, r2, r3, r4⟩, r5, r6⟩, ⟨h1, h2, h3, h4⟩, hW, hF⟩ := hC
  refine ⟨⟨⟨(e _ _ _ (by decide)).trans r0, (e _ _ _ (by decide)).trans r1, (e _ _ _ (by decide)).trans r2, ?_, r4⟩, (e _ _ _ (by decide)).trans r5, fun t ht => ?_⟩, ⟨?_, (e _ _ _ (by decide)).trans h2, (e _ _ _ (by decide)).trans h3, ?_⟩, hW, hF.tr (Fr.st (by unfold AW; omega))⟩
  · intro hk
    obtain ⟨a1, a2, a3, a4, r, q1, q2, q3⟩ := r3 hk
    exact ⟨a1, a2, a3, a4, r, RowsOK.kept rfl q1, q2, RV_keep (fun x k _ => e _ _ _ (by decide)) q3⟩
  · rw [e _ _ _ (by decide), e _ _ _ (by decide)]; exact r6 t ht
  · rw [gI_s, if_neg (by omega)]; exact h1
  · rw [gI_s, if_pos ⟨rfl, rfl, rfl⟩]; rfl
theorem CW.own {v : Int} (hC : CW m0 sc i kp cap m s lf o a b) : CW m0 sc i kp cap (sI m 15 (sc + 4) i (iZ v)) s lf v a b := by
  have e : ∀ t n k, t ≠ 15 → gI (sI m 15 (sc + 4) i (iZ v)) t n k = gI m t n k := fun t n k h => by rw [gI_s, if_neg (by omega)]
  obtain ⟨⟨⟨r0, r1, r2, r3, r4⟩, r5, r6⟩, ⟨h1, h2, h3, h4⟩, hW, hF⟩ := hC
  refine ⟨⟨⟨(e _ _ _ (by decide)).trans r0, (e _ _ _ (by decide)).trans r1, (e _ _ _ (by decide)).trans r2, ?_, r4⟩, (e _ _ _ (by decide)).trans r5, fun t ht => ?_⟩, ⟨(e _ _ _ (by decide)).trans h1, ?_, (e _ _ _ (by decide)).trans h3, (e _ _ _ (by decide)).trans h4⟩, hW, hF.tr (Fr.st (by unfold AW; omega))⟩
  · intro hk
    obtain ⟨a1, a2, a3, a4, r, q1, q2, q3⟩ := r3 hk
    exact ⟨a1, a2, a3, a4, r, RowsOK.kept rfl q1, q2, RV_keep (fun x k _ => e _ _ _ (by decide)) q3⟩
  · rw [e _ _ _ (by decide), e _ _ _ (by decide)]; exact r6 t ht
  · rw [gI_s, if_pos ⟨rfl, rfl, rfl⟩]
theorem CW.ahd {v : Int} (hC : CW m0 sc i kp cap m s lf o a b) : CW m0 sc i kp cap (sI m 16 (sc + 5) i (iZ v)) s lf o v b := by
  have e : ∀ t n k, t ≠ 16 → gI (sI m 16 (sc + 5) i (iZ v)) t n k = gI m t n k := fun t n k h => by rw [gI_s, if_neg (by omega)]
  obtain ⟨⟨⟨r0, r1, r2, r3, r4⟩, r5, r6⟩, ⟨h1, h2, h3, h4⟩, hW, hF⟩ := hC
  refine ⟨⟨⟨(e _ _ _ (by decide)).trans r0, (e _ _ _ (by decide)).trans r1, (e _ _ _ (by decide)).trans r2, ?_, r4⟩, (e _ _ _ (by decide)).trans r5, fun t ht => ?_⟩, ⟨(e _ _ _ (by decide)).trans h1, (e _ _ _ (by decide)).trans h2, ?_, (e _ _ _ (by decide)).trans h4⟩, hW, hF.tr (Fr.st (by unfold AW; omega))⟩
  · intro hk
    obtain ⟨a1, a2, a3, a4, r, q1, q2, q3⟩ := r3 hk
    exact ⟨a1, a2, a3, a4, r, RowsOK.kept rfl q1, q2, RV_keep (fun x k _ => e _ _ _ (by decide)) q3⟩
  · rw [e _ _ _ (by decide), e _ _ _ (by decide)]; exact r6 t ht
  · rw [gI_s, if_pos ⟨rfl, rfl, rfl⟩]
theorem c_take {t : Int} {x : Int32} (hx : x = iZ t) (hE : EW m0 sc i nn T P) (hC : CW m0 sc i kp cap m s lf o a b)
    (h : ∀ m', CW m0 sc i kp cap m' s (lf - t) t a b → K none m') : smC true 68 [vR (some (4, 4)), vI x] m K := by
  subst hx
  have hi := hE.ir
  refine smC_wp [some (vR (some (4, 4))), some (vI (iZ t))] cd_68 [] 40 OK_68 (by decide) rfl rfl (Nat.le_of_ble_eq_true rfl) ?_
  have hC2 : CW m0 sc i kp cap (sI m 4 4 11 (gI m 4 4 11 - iZ t)) s (lf - t) o a b := hC.left (by rw [hC.2.1.1, iZ_sub])
  refine Exists.intro _ (And.intro (rdS hE hC2) ?_)
  refine And.intro (by rw [rdI hE hC2]; exact (iZ_in (by constructor <;> omega)).mpr (by show 0 ≤ (i : Int) ∧ (i : Int) < 48; omega)) ?_
  refine And.intro trivial ?_
  rw [rdI hE hC2, iZ_clamp (by constructor <;> omega)]
  exact h _ hC2.own
theorem addGraces_loop (hE : EW m0 sc i nn T P) {mx : Nat} (hmx : mx ≤ 4) (hg : ∀ j, j < mx → gI m0 9 (nn + 1) j = iZ (pit (g j).1 (g j).2) ∧ okP (g j)) {l : Int} (hl : 1 ≤ l ∧ l ≤ 1000000) {x1 : Int32} : ∀ (n j : Nat) (m : Mem) (s : WS), j + n ≤ mx → CW m0 sc i kp cap m s lf o a b → s.1.length + n ≤ cap →
    (∀ m', CW m0 sc i kp cap m' (apN i (grQ g l j n) s) lf o a b → K none m') →
    smE true 69 7 [some (vR (some (4, 4))), some (vI x1), some (vI (iZ (j + n))), some (vI (iZ l)), some (vI (iZ j))] [] m K := by
  intro n
  induction n with
  | zero =>
    intro j m s hj hC hc h
    refine wp1_ok (by decide) OK_69 (cc := cd_69) rfl (stops := [7]) (f := 30) ?_
    refine And.intro (fun _ => And.intro trivial (h m hC)) (fun z => ?_)
    rw [iZ_le (by constructor <;> omega) (by constructor <;> omega)] at z
    omega
  | succ n ih =>
    intro j m s hj hC hc h
    refine wp1_ok (by decide) OK_69 (cc := cd_69) rfl (stops := [7]) (f := 30) ?_
    refine And.intro (fun z => ?_) (fun z => ?_)
    · rw [iZ_le (by constructor <;> omega) (by constructor <;> omega)] at z
      omega
    refine Exists.intro _ (And.intro (rdN hE hC) ?_)
    refine And.intro (fun z => ?_) (fun z => ?_)
    · have z : (iZ 4) ≤ iZ j := z
      rw [iZ_le (by constructor <;> omega) (by constructor <;> omega)] at z
      omega
    refine Exists.intro _ (And.intro (rdS hE hC) ?_)
    refine Exists.intro _ (And.intro (rdN hE hC) ?_)
    refine And.intro ((iZ_in (by constructor <;> omega)).mpr (by show 0 ≤ (j : Int) ∧ (j : Int) < 4; omega)) ?_
    have hgj := hg j (by omega)
    refine And.intro trivial (c_add (p := g j) (rdI hE hC) L3 ?_ rfl hC hgj.2 hl (by omega) (fun m' hC' => ?_))
    · rw [iZ_clamp (by constructor <;> omega)]
      exact (rd9 hC _ _).trans hgj.1
    refine And.intro trivial ?_
    rw [L1, iZ_add]
    have e1 : ((j : Int) + ((n + 1 : Nat) : Int)) = ((j + 1 : Nat) : Int) + (n : Int) := by omega
    have e2 : ((j : Int) + 1) = ((j + 1 : Nat) : Int) := by omega
    rw [e1, e2]
    exact ih (j + 1) m' _ (by omega) hC' (by simp only [plN, List.length_cons]; omega) h
theorem c_addGraces {j n : Nat} {l : Int} {x1 x2 x3 : Int32} (h1 : x1 = iZ j) (h2 : x2 = iZ (j + n)) (h3 : x3 = iZ l) (hE : EW m0 sc i nn T P) {mx : Nat} (hmx : mx ≤ 4) (hg : ∀ j, j < mx → gI m0 9 (nn + 1) j = iZ (pit (g j).1 (g j).2) ∧ okP (g j)) (hl : 1 ≤ l ∧ l ≤ 1000000) (hj : j + n ≤ mx) (hC : CW m0 sc i kp cap m s lf o a b) (hc : s.1.length + n ≤ cap)
    (h : ∀ m', CW m0 sc i kp cap m' (apN i (grQ g l j n) s) lf o a b → K none m') : smC true 69 [vR (some (4, 4)), vI x1, vI x2, vI x3] m K := by
  subst h1; subst h2; subst h3
  refine smC_wp [some (vR (some (4, 4))), some (vI (iZ j)), some (vI (iZ (j + n))), some (vI (iZ l)), none] cd_69 [7] 40 OK_69 (by decide) rfl rfl (Nat.le_of_ble_eq_true rfl) ?_
  refine And.intro trivial (c_max ?_)
  refine And.intro trivial ?_
  rw [iZ_toInt (by constructor <;> omega), show (0 : Int32).toInt = 0 from rfl, show max (0 : Int) (j : Int) = j by omega]
  exact addGraces_loop hE hmx hg hl n j m s hj hC hc h
end PREFIX
