/-! QUICK, T -/
theorem mulB {a b A B : Int} (h1 : 0 ≤ a ∧ a ≤ A) (h2 : 0 ≤ b ∧ b ≤ B) : 0 ≤ a * b ∧ a * b ≤ A * B :=
  ⟨Int.mul_nonneg h1.1 h2.1, Int.mul_le_mul h1.2 h2.2 h2.1 (Int.le_trans h1.1 h1.2)⟩
/-- a time (in 512ths of a whole) is QUICK -/
abbrev qk (lim sp pc t : Int) : Prop := t * 24000000 < lim * 512 * sp * pc
/-- T: doubled while it is QUICK (as often as f allows) -/
def dbl (lim sp pc : Int) : Nat → Int → Int
  | 0, t => t
  | f + 1, t => if qk lim sp pc t then dbl lim sp pc f (t * 2) else t
theorem qk_dn {lim sp pc t : Int} (hl : 0 ≤ lim ∧ lim ≤ 250) (hs : 0 ≤ sp ∧ sp ≤ 400) (hp : 0 ≤ pc ∧ pc ≤ 400) (h : qk lim sp pc t) : t < 854 := by
  have h1 := mulB hl (show (0 : Int) ≤ 512 ∧ (512 : Int) ≤ 512 by decide)
  have h2 := mulB h1 hs
  have h3 := mulB h2 hp
  unfold qk at h
  omega
section QUICK
variable {md : Bool} {m : Mem} {K : Option SV → Mem → Prop}
theorem c_isQuick {lim sp pc t : Int} {xt xs xp : Int32} (ht : xt = iZ t) (hs : xs = iZ sp) (hp : xp = iZ pc) (hlim : gI m 5 5 0 = iZ lim) (rl : 0 ≤ lim ∧ lim ≤ 250) (rs : 0 ≤ sp ∧ sp ≤ 400) (rp : 0 ≤ pc ∧ pc ≤ 400) (rt : 0 ≤ t ∧ t ≤ 4000000)
    (h1 : qk lim sp pc t → K (some (vI 1)) m) (h0 : ¬ qk lim sp pc t → K (some (vI 0)) m) : smC true 65 [vR (some (4, 4)), vI xt, vI xs, vI xp] m K := by
  subst ht; subst hs; subst hp
  refine smC_wp [some (vR (some (4, 4))), some (vI (iZ t)), some (vI (iZ sp)), some (vI (iZ pc))] cd_65 [] 40 OK_65 (by decide) rfl rfl (Nat.le_of_ble_eq_true rfl) ?_
  have b1 := mulB rl (show (0 : Int) ≤ 512 ∧ (512 : Int) ≤ 512 by decide)
  have b2 := mulB b1 rs
  have b3 := mulB b2 rp
  have b4 := mulB rt (show (0 : Int) ≤ 24000000 ∧ (24000000 : Int) ≤ 24000000 by decide)
  refine And.intro (by rw [L0, iZ_in (by decide)]; decide) ?_
  rw [show (0 : Int32).toNatClampNeg = 0 from rfl, hlim]
  have e1 := iZ_iL (z := t) (by constructor <;> omega)
  have e2 := iZ_iL (z := lim) (by constructor <;> omega)
  have e3 := iZ_iL (z := sp) (by constructor <;> omega)
  have e4 := iZ_iL (z := pc) (by constructor <;> omega)
  refine And.intro (fun z => ?_) (fun z => ?_)
  · rw [lg_ge, e1, e2, e3, e4, show (24000000 : Int64) = iL 24000000 from rfl, show (512 : Int64) = iL 512 from rfl, iL_mul, iL_mul, iL_mul, iL_mul, iL_le (by constructor <;> omega) (by constructor <;> omega)] at z
    exact And.intro (Or.inl rfl) (h0 (by unfold qk; omega))
  · rw [lg_ge, e1, e2, e3, e4, show (24000000 : Int64) = iL 24000000 from rfl, show (512 : Int64) = iL 512 from rfl, iL_mul, iL_mul, iL_mul, iL_mul, iL_le (by constructor <;> omega) (by constructor <;> omega)] at z
    exact And.intro (Or.inr rfl) (h1 (by unfold qk; omega))
/-- the loop of toneAt -/
theorem toneAt_loop {lim sp pc : Int} (hlim : gI m 5 5 0 = iZ lim) (rl : 0 ≤ lim ∧ lim ≤ 250) (rs : 0 ≤ sp ∧ sp ≤ 400) (rp : 0 ≤ pc ∧ pc ≤ 400) : ∀ (f : Nat) (t : Int), f ≤ 16 → 0 ≤ t ∧ t ≤ 2000 → K (some (vI (iZ (dbl lim sp pc f t)))) m →
    smE true 64 29 [some (vR (some (4, 4))), some (vI (iZ sp)), some (vI (iZ pc)), some (vI (iZ t)), some (vI (iZ (16 - f)))] [] m K := by
  intro f
  induction f with
  | zero =>
    intro t hf rt h
    refine wp1_ok (by decide) OK_64 (cc := cd_64) rfl (stops := [29]) (f := 30) ?_
    refine And.intro (fun z => ?_) (fun z => ?_)
    · exact And.intro trivial h
    · rw [L16, iZ_le (by decide) (by decide)] at z
      exact absurd (by decide) z
  | succ f ih =>
    intro t hf rt h
    refine wp1_ok (by decide) OK_64 (cc := cd_64) rfl (stops := [29]) (f := 30) ?_
    refine And.intro (fun z => ?_) (fun z => ?_)
    · rw [L16, iZ_le (by decide) (by constructor <;> omega)] at z
      omega
    · refine And.intro trivial (c_isQuick rfl rfl rfl hlim rl rs rp (by omega) (fun hq => ?_) (fun hq => ?_))
      · have hd := qk_dn rl rs rp hq
        refine And.intro (fun z => absurd z (by decide)) (fun _ => ?_)
        refine And.intro trivial ?_
        rw [L2, L1, iZ_mul, iZ_add]
        have e : (16 - ((f + 1 : Nat) : Int) + 1) = 16 - (f : Int) := by omega
        rw [e]
        refine ih (t * 2) (by omega) (by omega) ?_
        simp only [dbl, if_pos hq] at h
        exact h
      · refine And.intro (fun _ => ?_) (fun z => absurd rfl z)
        refine And.intro trivial ?_
        simp only [dbl, if_neg hq] at h
        exact h
def tnN (lim tone sp pc : Int) : Int := dbl lim sp pc 16 (512 / tone)
theorem c_toneAt {lim tone sp pc : Int} {xs xp : Int32} (hs : xs = iZ sp) (hp : xp = iZ pc) (hlim : gI m 5 5 0 = iZ lim) (hton : gI m 5 5 1 = iZ tone) (rt : tone = 8 ∨ tone = 16 ∨ tone = 32 ∨ tone = 64) (rl : 0 ≤ lim ∧ lim ≤ 250) (rs : 0 ≤ sp ∧ sp ≤ 400) (rp : 0 ≤ pc ∧ pc ≤ 400)
    (h : K (some (vI (iZ (tnN lim tone sp pc)))) m) : smC true 64 [vR (some (4, 4)), vI xs, vI xp] m K := by
  subst hs; subst hp
  refine smC_wp [some (vR (some (4, 4))), some (vI (iZ sp)), some (vI (iZ pc)), none, none] cd_64 [29] 40 OK_64 (by decide) rfl rfl (Nat.le_of_ble_eq_true rfl) ?_
  have rt2 : R32 tone := by constructor <;> omega
  refine And.intro (by rw [L1, iZ_in (by decide)]; decide) ?_
  rw [show (1 : Int32).toNatClampNeg = 1 from rfl, hton]
  refine And.intro (fun z => ?_) (fun z => ?_)
  · rw [L0, iZ_le rt2 (by decide)] at z
    omega
  · refine And.intro (by rw [L1, iZ_in (by decide)]; decide) ?_
    rw [show (1 : Int32).toNatClampNeg = 1 from rfl, hton]
    refine And.intro (fun z => ?_) ?_
    · rw [L0, iZ_eq rt2 (by decide)] at z
      omega
    refine And.intro trivial ?_
    rw [L512, iZ_div (by decide) rt2 (by decide) (by omega)]
    refine toneAt_loop hlim rl rs rp 16 (512 / tone) (Nat.le_refl _) ?_ h
    rcases rt with rfl | rfl | rfl | rfl <;> decide
end QUICK
