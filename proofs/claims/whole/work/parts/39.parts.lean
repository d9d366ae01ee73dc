/-! PARTS of a time: lowest terms over 512 -/
def p2 : Nat → Int
  | 0 => 1
  | f + 1 => 2 * p2 f
theorem p2_rng : ∀ f : Nat, f < 10 → 1 ≤ p2 f ∧ p2 f ≤ 512 := by decide
def lwN : Nat → Int → Int
  | 0, _ => 1
  | f + 1, r => if r % 2 = 0 then lwN f (r / 2) else p2 (f + 1)
def lnN (t : Int) : Int := lwN 9 t
def unN (t : Int) : Int := t / (512 / lnN t)
theorem lwN_rng : ∀ (f : Nat) (r : Int), f < 10 → 1 ≤ lwN f r ∧ lwN f r ≤ 512
  | 0, _, _ => by unfold lwN; decide
  | f + 1, r, h => by
    unfold lwN; split
    · exact lwN_rng f _ (by omega)
    · exact p2_rng _ h
theorem lnN_rng (t : Int) : 1 ≤ lnN t ∧ lnN t ≤ 512 := lwN_rng 9 t (by decide)
theorem unq_rng (t : Int) : 1 ≤ 512 / lnN t ∧ 512 / lnN t ≤ 512 := by
  have h := lnN_rng t
  constructor
  · exact (Int.le_ediv_iff_mul_le (by omega)).mpr (by omega)
  · exact Int.ediv_le_self _ (by decide)
theorem unN_rng {t : Int} (ht : 0 ≤ t) : 0 ≤ unN t ∧ unN t ≤ t := by
  have h := unq_rng t
  exact ⟨Int.ediv_nonneg ht (by omega), Int.ediv_le_self _ ht⟩
/-- halving as long as both numbers are even -/
def hvN : Nat → Int → Int
  | 0, r => r
  | f + 1, r => if r % 2 = 0 then hvN f (r / 2) else r
theorem hvN_q : ∀ (f : Nat) (r : Int), 0 ≤ r → ∃ k : Int, 1 ≤ k ∧ p2 f = k * lwN f r ∧ hvN f r = r / k
  | 0, r, _ => ⟨1, by decide, by unfold p2 lwN; decide, by unfold hvN; rw [Int.ediv_one]⟩
  | f + 1, r, h => by
    by_cases z : r % 2 = 0
    · obtain ⟨k, h1, h2, h3⟩ := hvN_q f (r / 2) (by omega)
      refine ⟨2 * k, by omega, ?_, ?_⟩
      · unfold p2 lwN
        rw [if_pos z, h2, Int.mul_assoc]
      · unfold hvN
        rw [if_pos z, h3, Int.ediv_ediv_of_nonneg (by decide)]
    · refine ⟨1, by decide, ?_, ?_⟩
      · unfold lwN
        rw [if_neg z, Int.one_mul]
      · unfold hvN
        rw [if_neg z, Int.ediv_one]
theorem hvN_un {t : Int} (ht : 0 ≤ t) : hvN 9 t = unN t := by
  obtain ⟨k, h1, h2, h3⟩ := hvN_q 9 t ht
  have hl := lnN_rng t
  have e : (512 : Int) = k * lnN t := h2
  have e2 : 512 / lnN t = k := by
    rw [e, Int.mul_ediv_cancel _ (by omega)]
  unfold unN
  rw [e2]
  exact h3
section PARTS
variable {md : Bool} {m : Mem} {K : Option SV → Mem → Prop}
theorem lower_loop {x0 : Int32} : ∀ (f : Nat) (r : Int), f < 10 → 0 ≤ r ∧ r < 2147483648 → K (some (vI (iZ (lwN f r)))) m →
    smE md 109 6 [some (vI x0), some (vI (iZ (p2 f))), some (vI (iZ r))] [] m K := by
  intro f
  induction f with
  | zero =>
    intro r hf hr h
    refine wp1_ok (by decide) OK_109 (cc := cd_109) rfl (stops := [6]) (f := 30) ?_
    refine And.intro (fun _ => And.intro trivial h) (fun z => absurd (by decide) z)
  | succ f ih =>
    intro r hf hr h
    have hp := p2_rng f (by omega)
    have hp1 := p2_rng (f + 1) hf
    have e : p2 (f + 1) = 2 * p2 f := rfl
    refine wp1_ok (by decide) OK_109 (cc := cd_109) rfl (stops := [6]) (f := 30) ?_
    refine And.intro (fun z => ?_) (fun z => ?_)
    · rw [L1, iZ_le (by constructor <;> omega) (by decide)] at z
      omega
    refine And.intro (by decide) ?_
    refine And.intro (fun z => ?_) (fun z => ?_)
    · rw [L2, L0, iZ_rem (by constructor <;> omega) (by decide) (by omega) (by decide), iZ_eq (by constructor <;> omega) (by decide)] at z
      unfold lwN at h
      rw [if_neg z] at h
      exact And.intro trivial h
    · rw [L2, L0, iZ_rem (by constructor <;> omega) (by decide) (by omega) (by decide), iZ_eq (by constructor <;> omega) (by decide)] at z
      unfold lwN at h
      rw [if_pos z] at h
      refine And.intro (by decide) ?_
      refine And.intro (by decide) ?_
      refine And.intro trivial ?_
      rw [L2, iZ_div (by constructor <;> omega) (by decide) (by omega) (by decide), iZ_div (by constructor <;> omega) (by decide) (by omega) (by decide), show p2 (f + 1) / 2 = p2 f by omega]
      exact ih (r / 2) (by omega) (by omega) h
theorem c_lower {t : Int} {x : Int32} (hx : x = iZ t) (ht : 0 ≤ t ∧ t < 2147483648) (h : K (some (vI (iZ (lnN t)))) m) : smC md 109 [vI x] m K := by
  subst hx
  refine smC_wp [some (vI (iZ t)), none, none] cd_109 [6] 30 OK_109 (by decide) rfl rfl (Nat.le_of_ble_eq_true rfl) ?_
  exact And.intro trivial (lower_loop 9 t (by decide) ht h)
theorem upper_loop {x0 : Int32} : ∀ (f : Nat) (r : Int), f < 10 → 0 ≤ r ∧ r < 2147483648 → K (some (vI (iZ (hvN f r)))) m →
    smE md 108 6 [some (vI x0), some (vI (iZ r)), some (vI (iZ (p2 f)))] [] m K := by
  intro f
  induction f with
  | zero =>
    intro r hf hr h
    refine wp1_ok (by decide) OK_108 (cc := cd_108) rfl (stops := [6]) (f := 30) ?_
    refine And.intro (fun _ => And.intro trivial h) (fun z => absurd (by decide) z)
  | succ f ih =>
    intro r hf hr h
    have hp := p2_rng f (by omega)
    have hp1 := p2_rng (f + 1) hf
    have e : p2 (f + 1) = 2 * p2 f := rfl
    refine wp1_ok (by decide) OK_108 (cc := cd_108) rfl (stops := [6]) (f := 30) ?_
    refine And.intro (fun z => ?_) (fun z => ?_)
    · rw [L1, iZ_le (by constructor <;> omega) (by decide)] at z
      omega
    refine And.intro (by decide) ?_
    refine And.intro (fun z => ?_) (fun z => ?_)
    · rw [L2, L0, iZ_rem (by constructor <;> omega) (by decide) (by omega) (by decide), iZ_eq (by constructor <;> omega) (by decide)] at z
      unfold hvN at h
      rw [if_neg z] at h
      exact And.intro trivial h
    · rw [L2, L0, iZ_rem (by constructor <;> omega) (by decide) (by omega) (by decide), iZ_eq (by constructor <;> omega) (by decide)] at z
      unfold hvN at h
      rw [if_pos z] at h
      refine And.intro (by decide) ?_
      refine And.intro (by decide) ?_
      refine And.intro trivial ?_
      rw [L2, iZ_div (by constructor <;> omega) (by decide) (by omega) (by decide), iZ_div (by constructor <;> omega) (by decide) (by omega) (by decide), show p2 (f + 1) / 2 = p2 f by omega]
      exact ih (r / 2) (by omega) (by omega) h
theorem c_upper {t : Int} {x : Int32} (hx : x = iZ t) (ht : 0 ≤ t ∧ t < 2147483648) (h : K (some (vI (iZ (unN t)))) m) : smC md 108 [vI x] m K := by
  subst hx
  rw [← hvN_un ht.1] at h
  refine smC_wp [some (vI (iZ t)), none, none] cd_108 [6] 30 OK_108 (by decide) rfl rfl (Nat.le_of_ble_eq_true rfl) ?_
  exact And.intro trivial (upper_loop 9 t (by decide) ht h)
end PARTS
