/-! THE MODEL: QUICK, T, parts -/
theorem p2_pow : ∀ f : Nat, p2 f = ((2 ^ f : Nat) : Int)
  | 0 => rfl
  | f + 1 => by rw [show p2 (f + 1) = 2 * p2 f from rfl, p2_pow f, Nat.pow_succ]; omega
theorem gcd_lw : ∀ (f r : Nat), ((Nat.gcd r (2 ^ f) : Nat) : Int) * lwN f (r : Int) = ((2 ^ f : Nat) : Int)
  | 0, r => by
    unfold lwN
    rw [Nat.pow_zero, Nat.gcd_one_right]; rfl
  | f + 1, r => by
    unfold lwN
    by_cases h : (r : Int) % 2 = 0
    · rw [if_pos h]
      have e : r = 2 * (r / 2) := by omega
      have ih := gcd_lw f (r / 2)
      have e2 : (r : Int) / 2 = ((r / 2 : Nat) : Int) := by omega
      rw [e2]
      have e3 : Nat.gcd r (2 ^ (f + 1)) = 2 * Nat.gcd (r / 2) (2 ^ f) := by
        rw [Nat.pow_succ, Nat.mul_comm (2 ^ f) 2]
        conv => lhs; rw [e]
        exact Nat.gcd_mul_left 2 (r / 2) (2 ^ f)
      rw [e3, Nat.pow_succ]
      generalize Nat.gcd (r / 2) (2 ^ f) = g at *
      have : ((2 * g : Nat) : Int) * lwN f ((r / 2 : Nat) : Int) = 2 * ((g : Int) * lwN f ((r / 2 : Nat) : Int)) := by
        rw [Int.natCast_mul, Int.mul_assoc]; rfl
      rw [this, ih]; omega
    · rw [if_neg h, p2_pow]
      have hc : Nat.gcd r (2 ^ (f + 1)) = 1 := by
        have h2 : Nat.gcd r 2 = 1 := by
          have h3 : r % 2 = 1 := by omega
          rw [Nat.gcd_comm, Nat.gcd_rec, h3]; rfl
        exact Nat.Coprime.pow_right (f + 1) h2
      rw [hc]; omega
theorem gcd_un (t : Nat) : ∃ g : Nat, Nat.gcd (3 * t) 1536 = 3 * g ∧ 1 ≤ g ∧ 512 / (g : Int) = lnN t ∧ (t : Int) / (g : Int) = unN t ∧ g ≤ 512 := by
  refine ⟨Nat.gcd t 512, ?_, ?_, ?_, ?_, ?_⟩
  · exact Nat.gcd_mul_left 3 t 512
  · exact Nat.gcd_pos_of_pos_right t (by decide)
  · have h := gcd_lw 9 t
    have hg : 0 < Nat.gcd t 512 := Nat.gcd_pos_of_pos_right t (by decide)
    change ((Nat.gcd t 512 : Nat) : Int) * lnN t = 512 at h
    rw [← h]
    exact Int.mul_ediv_cancel_left _ (by omega)
  · have h := gcd_lw 9 t
    have hl := lnN_rng t
    change ((Nat.gcd t 512 : Nat) : Int) * lnN t = 512 at h
    unfold unN
    have : 512 / lnN t = ((Nat.gcd t 512 : Nat) : Int) := by
      rw [← h]; exact Int.mul_ediv_cancel _ (by omega)
    rw [this]
  · exact Nat.le_of_dvd (by decide) (Nat.gcd_dvd_right t 512)
section MQ
variable {m : Mem} {K : Option SV → Mem → Prop} {D : Dt} {tm : Nat → Int}
theorem common_loop {x0 x1 : Int32} : ∀ (y x : Nat) (z : Option SV), x < 2000000000 → y < 2000000000 → K (some (vI (iZ (Nat.gcd x y)))) m → smE true 189 4 [some (vI x0), some (vI x1), some (vI (iZ x)), some (vI (iZ y)), z] [] m K := by
  intro y
  induction y using Nat.strongRecOn with
  | ind y ih =>
    intro x z hx hy h
    refine wp1_ok (by decide) OK_189 (cc := cd_189) rfl (stops := [4]) (f := 30) ?_
    refine And.intro (fun w => ?_) (fun w => ?_)
    · rw [L0, iZ_eq (by constructor <;> omega) (by decide)] at w
      have : y = 0 := by omega
      subst this
      rw [Nat.gcd_zero_right] at h
      exact And.intro trivial h
    · have w' := w
      rw [L0, iZ_eq (by constructor <;> omega) (by decide)] at w
      refine And.intro (fun q => w' q) ?_
      refine And.intro trivial ?_
      rw [iZ_rem (by constructor <;> omega) (by constructor <;> omega) (by omega) (by omega)]
      have e : (x : Int) % (y : Int) = ((x % y : Nat) : Int) := by omega
      rw [e]
      have hlt := Nat.mod_lt x (show 0 < y by omega)
      refine ih (x % y) hlt y _ hy (by omega) ?_
      rw [Nat.gcd_comm x y, Nat.gcd_rec, Nat.gcd_comm] at h
      exact h
theorem M_part {t w : Int} {x y : Int32} (hx : x = iZ (3 * t)) (hy : y = iZ w) (ht : 0 ≤ t ∧ t ≤ 600000000) (hw : R32 w) (h : K (some (vI (iZ (if w = 0 then unN t else lnN t)))) m) : smC true 188 [vI x, vI y] m K := by
  subst hx; subst hy
  obtain ⟨g, e1, e2, e3, e4, e5⟩ := gcd_un t.toNat
  rw [Int.toNat_of_nonneg ht.1] at e3 e4
  have et : 3 * t = ((3 * t.toNat : Nat) : Int) := by omega
  have cm : ∀ {Q : Option SV → Mem → Prop}, Q (some (vI (iZ ((3 * g : Nat) : Int)))) m → smC true 189 [vI (iZ (3 * t)), vI 1536] m Q := by
    intro Q hQ
    refine smC_wp [some (vI (iZ (3 * t))), some (vI 1536), none, none, none] cd_189 [4] 40 OK_189 (by decide) rfl rfl (Nat.le_of_ble_eq_true rfl) ?_
    refine And.intro trivial ?_
    rw [et]
    refine common_loop 1536 (3 * t.toNat) _ (by omega) (by decide) ?_
    rw [e1]; exact hQ
  refine smC_wp [some (vI (iZ (3 * t))), some (vI (iZ w))] cd_188 [] 40 OK_188 (by decide) rfl rfl (Nat.le_of_ble_eq_true rfl) ?_
  refine And.intro (fun z => ?_) (fun z => ?_)
  · rw [L0, iZ_eq hw (by decide)] at z
    rw [if_neg z] at h
    refine And.intro trivial (cm ?_)
    refine And.intro (fun q => ?_) ?_
    · rw [L0, iZ_eq (by constructor <;> omega) (by decide)] at q
      omega
    refine And.intro trivial ?_
    rw [L1536, iZ_div (by decide) (by constructor <;> omega) (by decide) (by omega)]
    have : (1536 : Int) / ((3 * g : Nat) : Int) = lnN t := by
      rw [← e3, Int.natCast_mul, show (1536 : Int) = 3 * 512 from rfl]
      exact Int.mul_ediv_mul_of_pos (a := 3) 512 (g : Int) (by decide)
    rw [this]; exact h
  · rw [L0, iZ_eq hw (by decide)] at z
    rw [if_pos z] at h
    refine And.intro trivial (cm ?_)
    refine And.intro (fun q => ?_) ?_
    · rw [L0, iZ_eq (by constructor <;> omega) (by decide)] at q
      omega
    refine And.intro trivial ?_
    rw [iZ_div (by constructor <;> omega) (by constructor <;> omega) (by omega) (by omega)]
    have : (3 * t) / ((3 * g : Nat) : Int) = unN t := by
      rw [← e4, Int.natCast_mul]
      exact Int.mul_ediv_mul_of_pos (a := 3) t (g : Int) (by decide)
    rw [this]; exact h
theorem qk_m {lim sp pc t : Int} : 24000000 * (3 * t) < lim * sp * pc * 1536 ↔ qk lim sp pc t := by
  unfold qk
  rw [Int.mul_right_comm lim 512 sp, Int.mul_right_comm (lim * sp) 512 pc]
  generalize lim * sp * pc = p
  omega
theorem M_isQuick {sp t : Int} {x y : Int32} (hx : x = iZ (3 * t)) (hy : y = iZ sp) (hT : MTm m tm) (rl : 0 ≤ tm 0 ∧ tm 0 ≤ 250) (rp : 0 ≤ tm 5 ∧ tm 5 ≤ 400) (rs : 0 ≤ sp ∧ sp ≤ 400) (rt : 0 ≤ t ∧ t ≤ 4000000)
    (h1 : qk (tm 0) sp (tm 5) t → K (some (vI 1)) m) (h0 : ¬ qk (tm 0) sp (tm 5) t → K (some (vI 0)) m) : smC true 178 [vR (some (23, 231)), vI x, vI y] m K := by
  subst hx; subst hy
  have b1 := mulB rl rs
  have b2 := mulB b1 rp
  refine smC_wp [some (vR (some (23, 231))), some (vI (iZ (3 * t))), some (vI (iZ sp))] cd_178 [] 40 OK_178 (by decide) rfl rfl (Nat.le_of_ble_eq_true rfl) ?_
  refine And.intro (by rw [L0, iZ_in (by decide)]; decide) ?_
  refine And.intro (by rw [L5, iZ_in (by decide)]; decide) ?_
  have g0 : gI m 24 232 (0 : Int32).toNatClampNeg = iZ (tm 0) := hT 0 (by decide)
  have g5 : gI m 24 232 (5 : Int32).toNatClampNeg = iZ (tm 5) := hT 5 (by decide)
  rw [g0, g5]
  have e1 := iZ_iL (z := 3 * t) (by constructor <;> omega)
  have e2 := iZ_iL (z := tm 0) (by constructor <;> omega)
  have e3 := iZ_iL (z := sp) (by constructor <;> omega)
  have e4 := iZ_iL (z := tm 5) (by constructor <;> omega)
  refine And.intro (fun z => ?_) (fun z => ?_)
  · rw [lg_ge, e1, e2, e3, e4, show (24000000 : Int64) = iL 24000000 from rfl, show (1536 : Int64) = iL 1536 from rfl, iL_mul, iL_mul, iL_mul, iL_mul, iL_le (by constructor <;> omega) (by constructor <;> omega)] at z
    exact And.intro (Or.inl rfl) (h0 (fun q => by have := qk_m.mpr q; omega))
  · rw [lg_ge, e1, e2, e3, e4, show (24000000 : Int64) = iL 24000000 from rfl, show (1536 : Int64) = iL 1536 from rfl, iL_mul, iL_mul, iL_mul, iL_mul, iL_le (by constructor <;> omega) (by constructor <;> omega)] at z
    exact And.intro (Or.inr rfl) (h1 (qk_m.mp (by omega)))
theorem M_toneOf {i : Nat} {x : Int32} (hx : x = iZ i) (hT : MTm m tm) (htm : tmOK tm) (rp : 0 ≤ tm 5 ∧ tm 5 ≤ 400) (hD : DOK D) (hM : MD m D) (hi : i < D.1) (h : K (some (vI (iZ (3 * wT tm (tm 5) (D.2.1 i))))) m) : smC true 177 [vR (some (23, 231)), vI x] m K := by
  subst hx
  have hsp := (hD.2.1 i hi).2.2.2.2.2.2.1
  have h0 := htm.1
  have g1 : gI m 24 232 (1 : Int32).toNatClampNeg = iZ (tm 1) := hT 1 (by decide)
  have loop : ∀ (f : Nat) (t : Int), 8 ≤ t ∧ t ≤ 2000 → 854 ≤ t * p2 f → K (some (vI (iZ (3 * dbl (tm 0) (D.2.1 i 9) (tm 5) f t)))) m → smE true 177 11 [some (vR (some (23, 231))), some (vI (iZ i)), some (vI (iZ (3 * t)))] [] m K := by
    intro f
    induction f with
    | zero =>
      intro t ht hf h
      refine wp1_ok (by decide) OK_177 (cc := cd_177) rfl (stops := [11]) (f := 30) ?_
      refine And.intro trivial (M_of (w := 9) rfl rfl hD hM hi (by decide) ?_)
      rw [mw_id (by decide) (by decide)]
      refine And.intro trivial (M_isQuick rfl rfl hT (by omega) rp (by omega) (by omega) (fun q => ?_) (fun q => ?_))
      · have := qk_dn (by omega) (by omega) rp q
        have e : t * p2 0 = t := by show t * 1 = t; omega
        omega
      · refine And.intro (fun _ => ?_) (fun w => absurd rfl w)
        exact And.intro trivial h
    | succ f ih =>
      intro t ht hf h
      refine wp1_ok (by decide) OK_177 (cc := cd_177) rfl (stops := [11]) (f := 30) ?_
      refine And.intro trivial (M_of (w := 9) rfl rfl hD hM hi (by decide) ?_)
      rw [mw_id (by decide) (by decide)]
      refine And.intro trivial (M_isQuick rfl rfl hT (by omega) rp (by omega) (by omega) (fun q => ?_) (fun q => ?_))
      · have := qk_dn (by omega) (by omega) rp q
        refine And.intro (fun w => absurd w (by decide)) (fun _ => ?_)
        refine And.intro trivial ?_
        rw [L2, iZ_mul, show 3 * t * 2 = 3 * (t * 2) by omega]
        refine ih (t * 2) (by omega) ?_ ?_
        · have e : t * p2 (f + 1) = t * 2 * p2 f := by show t * (2 * p2 f) = _; rw [Int.mul_assoc]
          omega
        · simp only [dbl, if_pos q] at h
          exact h
      · refine And.intro (fun _ => ?_) (fun w => absurd rfl w)
        simp only [dbl, if_neg q] at h
        exact And.intro trivial h
  refine smC_wp [some (vR (some (23, 231))), some (vI (iZ i)), none] cd_177 [11] 40 OK_177 (by decide) rfl rfl (Nat.le_of_ble_eq_true rfl) ?_
  refine And.intro (by rw [L1, iZ_in (by decide)]; decide) ?_
  rw [g1]
  have ht1 := htm.2.1
  refine And.intro (fun q => ?_) ?_
  · rw [L0, iZ_eq (by constructor <;> omega) (by decide)] at q
    omega
  refine And.intro trivial ?_
  rw [L1536, iZ_div (by decide) (by constructor <;> omega) (by decide) (by omega)]
  unfold wT tnN at h
  rcases ht1 with e | e | e | e <;> rw [e] at h ⊢
  · exact loop 16 64 (by decide) (by decide) h
  · exact loop 16 32 (by decide) (by decide) h
  · exact loop 16 16 (by decide) (by decide) h
  · exact loop 16 8 (by decide) (by decide) h
end MQ
