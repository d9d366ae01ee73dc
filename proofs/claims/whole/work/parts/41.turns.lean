/-! TURNS of a trill -/
def fitF (T t : Int) : Int := if 0 < t then min 64 (t / T) else 0
def fitG (f : Int) (bu : Bool) : Int := if decide (f % 2 = 1) = bu then f else f - 1
def fitN (T t : Int) (bu : Bool) : Int := if (if bu then (3 : Int) else 4) ≤ fitG (fitF T t) bu then fitG (fitF T t) bu else 0
theorem fitF_rng {T t : Int} (hT : 1 ≤ T) : 0 ≤ fitF T t ∧ fitF T t ≤ 64 := by
  unfold fitF; split
  · have : 0 ≤ t / T := Int.ediv_nonneg (by omega) (by omega)
    omega
  · omega
theorem fitF_fit {T t : Int} (hT : 1 ≤ T) (h : fitF T t ≠ 0) : fitF T t * T ≤ t := by
  unfold fitF at h ⊢
  split at h
  · rw [if_pos (by assumption)]
    have h1 : min 64 (t / T) ≤ t / T := Int.min_le_right _ _
    have h2 : t / T * T ≤ t := Int.ediv_mul_le _ (by omega)
    exact Int.le_trans (Int.mul_le_mul_of_nonneg_right h1 (by omega)) h2
  · exact absurd rfl h
theorem fitN_rng {T t : Int} {bu : Bool} (hT : 1 ≤ T) : fitN T t bu = 0 ∨ 3 ≤ fitN T t bu ∧ fitN T t bu ≤ 64 := by
  have h := fitF_rng (t := t) hT
  have h1 : fitG (fitF T t) bu ≤ fitF T t := by unfold fitG; split <;> omega
  unfold fitN
  cases bu
  · simp only [Bool.false_eq_true, if_false]
    split <;> omega
  · simp only [if_true]
    split <;> omega
theorem fitN_le {T t : Int} {bu : Bool} (hT : 1 ≤ T) (h0 : fitN T t bu ≠ 0) : fitN T t bu * T ≤ t := by
  have h := fitF_rng (t := t) hT
  have hle : fitN T t bu ≤ fitF T t := by
    unfold fitN fitG; split
    · split <;> omega
    · omega
  have hp := fitN_rng (t := t) (bu := bu) hT
  have h2 := fitF_fit (t := t) hT (by omega)
  exact Int.le_trans (Int.mul_le_mul_of_nonneg_right hle (by omega)) h2
section TURNS
variable {m0 m : Mem} {K : Option SV → Mem → Prop} {sc i nn cap : Nat} {kp b : Bool} {T lf o a : Int} {P : Int → Int × Int} {s : WS}
theorem c_turnsIn {md : Bool} {t T : Int} {bu : Bool} {x y : Int32} (hx : x = iZ t) (hy : y = if bu then 1 else 0) (hT : gI m 4 4 10 = iZ T) (rT : 1 ≤ T ∧ T ≤ 2000) (rt : R32 t)
    (h : K (some (vI (iZ (fitN T t bu)))) m) : smC true 78 [vR (some (4, 4)), vI x, vI y] m K := by
  subst hx
  have rest : ∀ f, f = fitF T t → smE true 78 26 [some (vR (some (4, 4))), some (vI (iZ t)), some (vI y), none, none, none] [vI (iZ f)] m K := by
    intro f hf
    have hfr := fitF_rng (t := t) (T := T) (by omega)
    rw [← hf] at hfr
    have fin : ∀ g, g = fitG f bu → smE true 78 62 [some (vR (some (4, 4))), some (vI (iZ t)), some (vI y), some (vI (iZ f)), some (vI (if decide (f % 2 = 1) = bu then 0 else 1)), none] [vI (iZ g)] m K := by
      intro g hg
      have hgr : -1 ≤ g ∧ g ≤ 64 := by rw [hg]; unfold fitG; split <;> omega
      refine wp_ok (by decide) OK_78 (cc := cd_78) rfl (stops := []) 40 _ _ _ _ ?_
      unfold fitN at h
      rw [← hf, ← hg] at h
      cases bu with
      | true =>
        have hy : y = 1 := hy
        subst hy
        refine And.intro (fun z => absurd z (by decide)) (fun _ => ?_)
        simp only [if_true] at h
        refine And.intro (fun z => ?_) (fun z => ?_)
        · rw [L3, iZ_lt (by constructor <;> omega) (by decide)] at z
          rw [if_neg (by omega)] at h
          exact And.intro trivial h
        · rw [L3, iZ_lt (by constructor <;> omega) (by decide)] at z
          rw [if_pos (by omega)] at h
          exact And.intro trivial h
      | false =>
        have hy : y = 0 := hy
        subst hy
        refine And.intro (fun _ => ?_) (fun z => absurd rfl z)
        simp only [Bool.false_eq_true, if_false] at h
        refine And.intro (fun z => ?_) (fun z => ?_)
        · rw [L4, iZ_lt (by constructor <;> omega) (by decide)] at z
          rw [if_neg (by omega)] at h
          exact And.intro trivial h
        · rw [L4, iZ_lt (by constructor <;> omega) (by decide)] at z
          rw [if_pos (by omega)] at h
          exact And.intro trivial h
    have mid : ∀ v : Int32, v = (if decide (f % 2 = 1) = true then 1 else 0) → smE true 78 39 [some (vR (some (4, 4))), some (vI (iZ t)), some (vI y), some (vI (iZ f)), none, none] [vI v] m K := by
      intro v hv
      refine wp_ok (by decide) OK_78 (cc := cd_78) rfl (stops := [62]) 40 _ _ _ _ ?_
      by_cases hq : decide (f % 2 = 1) = bu
      · have e : v = y := by rw [hv, hy, hq]
        refine And.intro (fun _ => ?_) (fun z => absurd e z)
        refine And.intro (fun _ => ?_) (fun z => absurd rfl z)
        refine And.intro trivial ?_
        have := fin f (by unfold fitG; rw [if_pos hq])
        rw [if_pos hq] at this
        exact this
      · have e : ¬ v = y := by
          rw [hv, hy]
          intro z
          apply hq
          cases bu <;> cases hd : decide (f % 2 = 1) <;> simp_all
        refine And.intro (fun z => absurd z e) (fun _ => ?_)
        refine And.intro (fun z => absurd z (by decide)) (fun _ => ?_)
        refine And.intro trivial ?_
        have := fin (f - 1) (by unfold fitG; rw [if_neg hq])
        rw [if_neg hq, ← iZ_sub, ← L1] at this
        exact this
    refine wp_ok (by decide) OK_78 (cc := cd_78) rfl (stops := [39]) 40 _ _ _ _ ?_
    refine And.intro (by decide) ?_
    refine And.intro (fun z => ?_) (fun z => ?_)
    · rw [L2, L1, iZ_rem (by constructor <;> omega) (by decide) (by omega) (by decide), iZ_eq (by constructor <;> omega) (by decide)] at z
      exact And.intro trivial (mid 0 (by simp [z]))
    · rw [L2, L1, iZ_rem (by constructor <;> omega) (by decide) (by omega) (by decide), iZ_eq (by constructor <;> omega) (by decide)] at z
      exact And.intro trivial (mid 1 (by simp [z]))
  refine smC_wp [some (vR (some (4, 4))), some (vI (iZ t)), some (vI y), none, none, none] cd_78 [26] 40 OK_78 (by decide) rfl rfl (Nat.le_of_ble_eq_true rfl) ?_
  refine And.intro (fun z => ?_) (fun z => ?_)
  · rw [hT, L0, iZ_le (by constructor <;> omega) (by decide)] at z
    omega
  refine And.intro (fun z => ?_) (fun z => ?_)
  · rw [L0, iZ_le rt (by decide)] at z
    exact And.intro trivial (rest 0 (by unfold fitF; rw [if_neg (by omega)]))
  · rw [L0, iZ_le rt (by decide)] at z
    refine And.intro (fun w => ?_) ?_
    · rw [hT, L0, iZ_eq (by constructor <;> omega) (by decide)] at w
      omega
    rw [hT, iZ_div rt (by constructor <;> omega) (by omega) (by omega)]
    refine And.intro trivial (c_min ?_)
    have h1 : 0 ≤ t / T := Int.ediv_nonneg (by omega) (by omega)
    have h2 : t / T ≤ t := Int.ediv_le_self _ (by omega)
    refine And.intro trivial ?_
    rw [iZ_toInt (by constructor <;> omega), show (64 : Int32).toInt = 64 from rfl]
    exact rest _ (by unfold fitF; rw [if_pos (by omega)])
theorem c_wants (hE : EW m0 sc i nn T P) {bh af : Int} {nx : Option (Nat × Int × Int)} (hb : gI m0 8 nn 12 = iZ bh) (rb : 0 ≤ bh ∧ bh ≤ 2) (ha : gI m0 5 5 4 = iZ af) (ra : 0 ≤ af ∧ af ≤ 1)
    (hn : gP m0 4 4 9 = nx.map (fun z => (8, z.1))) (hx : ∀ z, nx = some z → gI m0 8 z.1 0 = iZ (pit z.2.1 z.2.2) ∧ okP z.2) (hC : CW m0 sc i kp cap m s lf o a b)
    (h1 : bh = 1 ∨ (af = 1 ∧ ∃ z, nx = some z ∧ z.2.1 = (P 1).1) → K (some (vI 1)) m) (h0 : ¬ (bh = 1 ∨ (af = 1 ∧ ∃ z, nx = some z ∧ z.2.1 = (P 1).1)) → K (some (vI 0)) m) : smC true 76 [vR (some (4, 4))] m K := by
  have hP1 := hE.2.2.2.2.2.1.2.1
  have e1 : gI m 17 26 1 = iZ (pit (P 1).1 (P 1).2) := (rd17 hC _ _).trans hE.2.2.1.2.1
  refine smC_wp [some (vR (some (4, 4)))] cd_76 [] 40 OK_76 (by decide) rfl rfl (Nat.le_of_ble_eq_true rfl) ?_
  refine Exists.intro _ (And.intro (rdN hE hC) ?_)
  refine And.intro (fun z => ?_) (fun z => ?_)
  · rw [rd8 hC, hb, L1, iZ_eq (by constructor <;> omega) (by decide)] at z
    refine And.intro (by rw [L4, iZ_in (by decide)]; decide) ?_
    have e4 : gI m 5 5 4 = iZ af := (rd5 hC _ _).trans ha
    refine And.intro (fun y => ?_) (fun y => ?_)
    · have y : ¬ gI m 5 5 4 = 1 := y
      rw [e4, L1, iZ_eq (by constructor <;> omega) (by decide)] at y
      exact And.intro (Or.inl rfl) (h0 (by rintro (q | q); exact z q; exact y q.1))
    have y : gI m 5 5 4 = 1 := y
    rw [e4, L1, iZ_eq (by constructor <;> omega) (by decide)] at y
    refine Exists.intro _ (And.intro ((rd_P hC).trans hn) ?_)
    cases nx with
    | none =>
      exact And.intro (Or.inl rfl) (h0 (by rintro (q | ⟨_, w, q, _⟩); exact z q; cases q))
    | some w =>
      refine Exists.intro _ (And.intro ((rd_P hC).trans hn) ?_)
      have hw := hx w rfl
      refine And.intro trivial (c_num ((rd8 hC _ _).trans hw.1) (by omega) (by omega) ?_)
      refine And.intro (by rw [L1, iZ_in (by decide)]; decide) ?_
      refine And.intro trivial (c_num e1 (by omega) (by omega) ?_)
      refine And.intro (fun q => ?_) (fun q => ?_)
      · rw [iZ_eq (by constructor <;> omega) (by constructor <;> omega)] at q
        exact And.intro (Or.inl rfl) (h0 (by rintro (q' | ⟨_, w', q', q2⟩); exact z q'; cases q'; exact q q2))
      · rw [iZ_eq (by constructor <;> omega) (by constructor <;> omega)] at q
        exact And.intro (Or.inr rfl) (h1 (Or.inr ⟨y, w, rfl, q⟩))
  · rw [rd8 hC, hb, L1, iZ_eq (by constructor <;> omega) (by decide)] at z
    exact And.intro (Or.inr rfl) (h1 (Or.inl z))
end TURNS
