/-! A NOTE: its prefix, what stands behind -/
def apL (L : Int) : Int := if unN L = 3 then L / 3 * 2 else L / 2
def preS (i : Nat) (P : Int → Int × Int) (g : Nat → Int × Int) (T L ah : Int) (qa : Bool) (pf : Int) (s : WS) : Int × WS × Int × Int :=
  if pf = 0 then (0, s, 0, 0)
  else if pf = 5 then (if qa then (3, s, 0, 0) else (1, apN i [(3, g 0, apL L)] s, apL L, 0))
  else if pf = 6 then (if L < 2 * T then (3, s, 0, 0) else if L < 4 * T then (2, apN i [(2, P 2, T)] s, T, 0) else (1, apN i [(4, P 4, T), (2, P 2, T)] s, 2 * T, 0))
  else if ah = 1 ∧ s.2.1 = true ∧ 2 * pf * T ≤ ltL s then (1, apN i (grQ g T 0 pf.toNat) (shN (pf * T) s), 0, pf * T)
  else ((if plK T L pf.toNat = pf.toNat then 1 else if plK T L pf.toNat = 0 then 3 else 2), apN i (grQ g T (pf.toNat - plK T L pf.toNat) (plK T L pf.toNat)) s, plK T L pf.toNat * T, 0)
def behS (i : Nat) (T bh : Int) (nx : NX) (ab : Bool) (s : WS) : Int × WS :=
  if bh = 1 then ((if ab then 1 else 3), s)
  else if bh = 2 then (match nx with
    | none => (3, s)
    | some z => if ltL s < 2 * T then (3, s) else (1, plN i 5 z.2 T (shN T s)))
  else (0, s)
section PRE
variable {m0 m : Mem} {K : Option SV → Mem → Prop} {sc i nn cap : Nat} {kp b : Bool} {T lf o a pc sp bd bh L pf : Int} {P : Int → Int × Int} {s : WS} {tm : Nat → Int} {nx : NX} {g : Nat → Int × Int}
theorem apL_rng {L : Int} (h : 2 ≤ L) : 1 ≤ apL L ∧ apL L < L := by
  unfold apL; split
  · rename_i h3
    have : unN L ≤ L := (unN_rng (by omega)).2
    omega
  · omega
theorem c_playApp (hE : EW m0 sc i nn T P) (hB : EB m0 nn tm pc sp bd bh nx) (hg : ∀ j, j < 1 → gI m0 9 (nn + 1) j = iZ (pit (g j).1 (g j).2) ∧ okP (g j)) (hL : gI m0 8 nn 2 = iZ L) (rL : 8 ≤ L ∧ L ≤ 1000000) (hC : CW m0 sc i kp cap m s lf o a b) (hcap : s.1.length + 1 ≤ cap)
    (h3 : qk (tm 0) sp pc (apL L) → K (some (vI 3)) m)
    (h1 : ¬ qk (tm 0) sp pc (apL L) → ∀ m', CW m0 sc i kp cap m' (apN i [(3, g 0, apL L)] s) (lf - apL L) (apL L) a b → K (some (vI 1)) m') : smC true 67 [vR (some (4, 4))] m K := by
  have hT := hE.Tr
  have eL : gI m 8 nn 2 = iZ L := (rd8 hC _ _).trans hL
  have hap := apL_rng (L := L) (by omega)
  have hun := unN_rng (t := L) (by omega)
  have rest : smE true 67 37 [some (vR (some (4, 4))), none] [vI (iZ (apL L))] m K := by
    refine wp_ok (by decide) OK_67 (cc := cd_67) rfl (stops := []) 60 _ _ _ _ ?_
    refine Exists.intro _ (And.intro (rdN hE hC) ?_)
    refine And.intro trivial (c_isQuick rfl ((rd8 hC _ _).trans hB.2.1.2.1) ((rd_n hC (by decide) (by decide) (by decide) (by decide) (by omega)).trans hB.2.1.1) ((rd5 hC _ _).trans (hB.1 0 (by decide))) hB.2.2.2.1.1 hB.2.2.2.2.1 hB.2.2.2.2.2.1 (by omega) (fun y => ?_) (fun y => ?_))
    · refine And.intro (fun z => absurd z (by decide)) (fun _ => ?_)
      exact And.intro trivial (h3 y)
    · refine And.intro (fun _ => ?_) (fun z => absurd rfl z)
      refine And.intro trivial (c_take rfl hE hC (fun m1 C1 => ?_))
      refine And.intro trivial (smC_wp [some (vR (some (4, 4))), some (vI 0), some (vI 1), some (vI (iZ (apL L))), none] cd_69 [7] 40 OK_69 (by decide) rfl rfl (Nat.le_of_ble_eq_true rfl) ?_)
      refine And.intro trivial (c_max ?_)
      refine And.intro trivial ?_
      refine wp1_ok (by decide) OK_69 (cc := cd_69) rfl (stops := [7]) (f := 40) ?_
      refine And.intro (fun z => absurd z (by decide)) (fun _ => ?_)
      refine Exists.intro _ (And.intro (rdN hE C1) ?_)
      refine And.intro (fun z => absurd z (by decide)) (fun _ => ?_)
      refine Exists.intro _ (And.intro (rdS hE C1) ?_)
      refine Exists.intro _ (And.intro (rdN hE C1) ?_)
      refine And.intro (by show vp_in (iZ 0) 4; rw [iZ_in (by decide)]; decide) ?_
      refine And.intro trivial (c_add (p := g 0) (rdI hE C1) L3 ((rd9 C1 _ _).trans (hg 0 (by decide)).1) rfl C1 (hg 0 (by decide)).2 (by omega) (by omega) (fun m2 C2 => ?_))
      refine And.intro trivial ?_
      refine wp1_ok (by decide) OK_69 (cc := cd_69) rfl (stops := [7]) (f := 40) ?_
      refine And.intro (fun _ => ?_) (fun z => absurd (by decide) z)
      refine And.intro trivial ?_
      exact And.intro trivial (h1 y m2 C2)
  refine smC_wp [some (vR (some (4, 4))), none] cd_67 [37] 60 OK_67 (by decide) rfl rfl (Nat.le_of_ble_eq_true rfl) ?_
  refine Exists.intro _ (And.intro (rdN hE hC) ?_)
  refine And.intro trivial (c_upper eL (by omega) ?_)
  refine And.intro (fun z => ?_) (fun z => ?_)
  · rw [L3, iZ_eq (by constructor <;> omega) (by decide)] at z
    refine Exists.intro _ (And.intro (rdN hE hC) ?_)
    refine And.intro (by decide) ?_
    refine And.intro trivial ?_
    rw [eL, L2, iZ_div (by constructor <;> omega) (by decide) (by omega) (by decide)]
    have : apL L = L / 2 := by unfold apL; rw [if_neg z]
    rw [← this]; exact rest
  · rw [L3, iZ_eq (by constructor <;> omega) (by decide)] at z
    refine Exists.intro _ (And.intro (rdN hE hC) ?_)
    refine And.intro (by decide) ?_
    refine And.intro trivial ?_
    rw [eL, L3, L2, iZ_div (by constructor <;> omega) (by decide) (by omega) (by decide), iZ_mul]
    have : apL L = L / 3 * 2 := by unfold apL; rw [if_pos z]
    rw [← this]; exact rest
theorem c_playPrefix (hE : EW m0 sc i nn T P) (hB : EB m0 nn tm pc sp bd bh nx) (hpf : gI m0 8 nn 7 = iZ pf) (rpf : 0 ≤ pf ∧ pf ≤ 6) (hg : ∀ j : Nat, (j : Int) < pf → (pf = 5 → j < 1) → pf ≠ 6 → gI m0 9 (nn + 1) j = iZ (pit (g j).1 (g j).2) ∧ okP (g j)) {qa : Bool} (hqa : qa = true ↔ qk (tm 0) sp pc (apL L)) (hL : gI m0 8 nn 2 = iZ L) (rL : 8 ≤ L ∧ L ≤ 1000000) (hC : CW m0 sc i kp cap m s L 0 0 b) (hcap : s.1.length + 4 ≤ cap)
    (h : ∀ m', CW m0 sc i kp cap m' (preS i P g T L (tm 2) qa pf s).2.1 (L - (preS i P g T L (tm 2) qa pf s).2.2.1) (preS i P g T L (tm 2) qa pf s).2.2.1 (preS i P g T L (tm 2) qa pf s).2.2.2 b → K (some (vI (iZ (preS i P g T L (tm 2) qa pf s).1))) m') : smC true 66 [vR (some (4, 4))] m K := by
  have hT := hE.Tr
  have ep : gI m 8 nn 7 = iZ pf := (rd8 hC _ _).trans hpf
  refine smC_wp [some (vR (some (4, 4)))] cd_66 [] 60 OK_66 (by decide) rfl rfl (Nat.le_of_ble_eq_true rfl) ?_
  refine Exists.intro _ (And.intro (rdN hE hC) ?_)
  refine And.intro (fun z => ?_) (fun z => ?_)
  · rw [ep, L0, iZ_eq (by constructor <;> omega) (by decide)] at z
    refine Exists.intro _ (And.intro (rdN hE hC) ?_)
    refine And.intro (fun y => ?_) (fun y => ?_)
    · rw [ep, L5, iZ_eq (by constructor <;> omega) (by decide)] at y
      refine Exists.intro _ (And.intro (rdN hE hC) ?_)
      refine And.intro (fun x => ?_) (fun x => ?_)
      · rw [ep, L6, iZ_eq (by constructor <;> omega) (by decide)] at x
        refine Exists.intro _ (And.intro (rdN hE hC) ?_)
        obtain ⟨mn, rfl⟩ : ∃ mn : Nat, pf = (mn : Int) := ⟨pf.toNat, by omega⟩
        have eu : preS i P g T L (tm 2) qa mn s = (if tm 2 = 1 ∧ s.2.1 = true ∧ 2 * (mn : Int) * T ≤ ltL s then (1, apN i (grQ g T 0 mn) (shN (mn * T) s), 0, mn * T)
          else ((if plK T L mn = mn then 1 else if plK T L mn = 0 then 3 else 2), apN i (grQ g T (mn - plK T L mn) (plK T L mn)) s, plK T L mn * T, 0)) := by
          unfold preS; rw [if_neg z, if_neg y, if_neg x]; rfl
        rw [eu] at h
        refine And.intro trivial (c_playGraces hE (g := g) (fun j hj => hg j (by omega) (by omega) (by omega)) ((rfl : gI m0 5 5 2 = gI m0 5 5 2).trans (hB.1 2 (by decide))) hB.2.2.2.1.2.1 hL (by omega) ep (by omega) (by omega) hC (by omega) (fun q m1 C1 => ?_) (fun q m1 C1 => ?_))
        · rw [if_pos q] at h
          exact And.intro trivial (h m1 (by rw [Int.sub_zero]; exact C1))
        · rw [if_neg q] at h
          have h := h m1 C1
          refine And.intro trivial ?_
          have e : iZ (if plK T L mn = mn then 1 else if plK T L mn = 0 then 3 else 2) = (if plK T L mn = mn then 1 else if plK T L mn = 0 then 3 else 2) := by
            split
            · rfl
            · split <;> rfl
          rw [← e]; exact h
      · rw [ep, L6, iZ_eq (by constructor <;> omega) (by decide)] at x
        have eu : preS i P g T L (tm 2) qa pf s = (if L < 2 * T then (3, s, 0, 0) else if L < 4 * T then (2, apN i [(2, P 2, T)] s, T, 0) else (1, apN i [(4, P 4, T), (2, P 2, T)] s, 2 * T, 0)) := by
          unfold preS; rw [if_neg z, if_neg y, if_pos x]
        rw [eu] at h
        refine And.intro trivial (c_playSlide hE hL (by omega) hC (by omega) (fun q => ?_) (fun q1 q2 m1 C1 => ?_) (fun q m1 C1 => ?_))
        · rw [if_pos q] at h
          exact And.intro trivial (h m (by rw [Int.sub_zero]; exact hC))
        · rw [if_neg (by omega), if_pos q2] at h
          exact And.intro trivial (h m1 C1)
        · rw [if_neg (by omega), if_neg (by omega)] at h
          exact And.intro trivial (h m1 C1)
    · rw [ep, L5, iZ_eq (by constructor <;> omega) (by decide)] at y
      have eu : preS i P g T L (tm 2) qa pf s = (if qa then (3, s, 0, 0) else (1, apN i [(3, g 0, apL L)] s, apL L, 0)) := by
        unfold preS; rw [if_neg z, if_pos y]
      rw [eu] at h
      refine And.intro trivial (c_playApp hE hB (fun j hj => hg j (by omega) (fun _ => hj) (by omega)) hL rL hC (by omega) (fun q => ?_) (fun q m1 C1 => ?_))
      · rw [if_pos (hqa.mpr q)] at h
        exact And.intro trivial (h m (by rw [Int.sub_zero]; exact hC))
      · rw [if_neg (fun w => q (hqa.mp w))] at h
        exact And.intro trivial (h m1 C1)
  · rw [ep, L0, iZ_eq (by constructor <;> omega) (by decide)] at z
    have eu : preS i P g T L (tm 2) qa pf s = (0, s, 0, 0) := by unfold preS; rw [if_pos z]
    rw [eu] at h
    exact And.intro trivial (h m (by rw [Int.sub_zero]; exact hC))
theorem c_playBehind (hE : EW m0 sc i nn T P) (hB : EB m0 nn tm pc sp bd bh nx) (hC : CW m0 sc i kp cap m s lf o a b) (hs : s.2.1 = true) (hcap : s.1.length + 1 ≤ cap)
    (h : ∀ m', CW m0 sc i kp cap m' (behS i T bh nx b s).2 lf o a b → K (some (vI (iZ (behS i T bh nx b s).1))) m') : smC true 85 [vR (some (4, 4))] m K := by
  have hT := hE.Tr
  have ebh : gI m 8 nn 12 = iZ bh := (rd8 hC _ _).trans hB.2.1.2.2.2
  have rbh := hB.2.2.2.2.2.2.2
  obtain ⟨t, ts, q1, q2, q3, q4⟩ := lk_ne hC hs
  have el : ltL s = t.2.2.2.2.2 := by unfold ltL; rw [q1]
  refine smC_wp [some (vR (some (4, 4)))] cd_85 [] 60 OK_85 (by decide) rfl rfl (Nat.le_of_ble_eq_true rfl) ?_
  refine Exists.intro _ (And.intro (rdN hE hC) ?_)
  refine And.intro (fun z => ?_) (fun z => ?_)
  · rw [ebh, L1, iZ_eq (by constructor <;> omega) (by decide)] at z
    refine Exists.intro _ (And.intro (rdN hE hC) ?_)
    refine And.intro (fun y => ?_) (fun y => ?_)
    · rw [ebh, L2, iZ_eq (by constructor <;> omega) (by decide)] at y
      unfold behS at h
      rw [if_neg z, if_pos y] at h
      refine Exists.intro _ (And.intro ((rd_P hC).trans hB.2.2.1.1) ?_)
      cases nx with
      | none => exact And.intro trivial (h m hC)
      | some w =>
        have hw := hB.2.2.1.2 w rfl
        simp only at h
        refine Exists.intro _ (And.intro (rdS hE hC) ?_)
        refine And.intro (fun x => ?_) (fun x => ?_)
        · rw [rdT hE hC, q4, L2, iZ_mul, iZ_le (by constructor <;> omega) (by constructor <;> omega)] at x
          rw [if_neg (by omega)] at h
          refine Exists.intro _ (And.intro (rdS hE hC) ?_)
          refine And.intro trivial (c_sh (rdT hE hC) hC (by omega) (fun m1 C1 => ?_))
          refine Exists.intro _ (And.intro (rdS hE C1) ?_)
          refine Exists.intro _ (And.intro ((rd_P C1).trans hB.2.2.1.1) ?_)
          refine And.intro trivial (c_add (p := w.2) (rdI hE C1) L5 ((rd8 C1 _ _).trans hw.1) (rdT hE C1) C1 hw.2 (by omega) (by rw [shN_len]; omega) (fun m2 C2 => ?_))
          exact And.intro trivial (h m2 C2)
        · rw [rdT hE hC, q4, L2, iZ_mul, iZ_le (by constructor <;> omega) (by constructor <;> omega)] at x
          rw [if_pos (by omega)] at h
          exact And.intro trivial (h m hC)
    · rw [ebh, L2, iZ_eq (by constructor <;> omega) (by decide)] at y
      unfold behS at h
      rw [if_neg z, if_neg y] at h
      exact And.intro trivial (h m hC)
  · rw [ebh, L1, iZ_eq (by constructor <;> omega) (by decide)] at z
    unfold behS at h
    rw [if_pos z] at h
    have e13 := hC.2.1.2.2.2
    cases b with
    | true =>
      refine And.intro (fun q => absurd (e13.symm.trans q) (by decide)) (fun _ => ?_)
      exact And.intro trivial (h m hC)
    | false =>
      refine And.intro (fun _ => ?_) (fun q => absurd e13 q)
      exact And.intro trivial (h m hC)
end PRE
