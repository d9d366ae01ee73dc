/-! THE MODEL: leaves -/
section MLEAF
variable {m : Mem} {K : Option SV → Mem → Prop} {D : Dt} {tm : Nat → Int}
theorem M_isIn {v lo hi : Int} {x y z : Int64} (hx : x = iL v) (hy : y = iL lo) (hz : z = iL hi) (rv : R64 v) (rl : R64 lo) (rh : R64 hi) (h1 : lo ≤ v ∧ v ≤ hi → K (some (vI 1)) m) (h0 : ¬ (lo ≤ v ∧ v ≤ hi) → K (some (vI 0)) m) : smC true 135 [vL x, vL y, vL z] m K := by
  subst hx; subst hy; subst hz
  refine smC_wp [some (vL (iL v)), none, some (vL (iL lo)), none, some (vL (iL hi)), none] cd_135 [] 40 OK_135 (by decide) rfl rfl (Nat.le_of_ble_eq_true rfl) ?_
  refine And.intro (fun w => ?_) (fun w => ?_)
  · rw [lg_lt, iL_lt rv rl] at w
    exact And.intro (Or.inl rfl) (h0 (by omega))
  rw [lg_lt, iL_lt rv rl] at w
  refine And.intro (fun w2 => ?_) (fun w2 => ?_)
  · rw [lg_gt, iL_lt rh rv] at w2
    exact And.intro (Or.inl rfl) (h0 (by omega))
  rw [lg_gt, iL_lt rh rv] at w2
  exact And.intro (Or.inr rfl) (h1 (by omega))
/-- the Model's song: what stands in `all` -/
def mw (w : Nat) (v : Int) : Int := if w = 4 ∨ w = 5 then 3 * v else v
def MD (m : Mem) (D : Dt) : Prop :=
  (gI m 29 237 0 = iZ D.1 ∧ gI m 29 237 1 = iZ D.2.2.1 ∧ gI m 29 237 2 = iZ (3 * D.2.2.2.2)) ∧ (∀ i w, i < D.1 → w < 30 → gI m 29 237 (4 + 30 * i + w) = iZ (mw w (D.2.1 i w))) ∧ ∀ k, k < D.2.2.1 → gI m 29 237 (1444 + k) = iZ (3 * D.2.2.2.1 k)
def MTm (m : Mem) (tm : Nat → Int) : Prop := ∀ k, k < 7 → gI m 24 232 k = iZ (tm k)
/-- what the constructor made and nothing changes -/
def MB (m : Mem) : Prop := (∀ k, k < 7 → gI m 27 235 k = iZ (bsN k)) ∧ (gI m 28 236 0 = 3 ∧ gI m 28 236 1 = 0 ∧ gI m 28 236 2 = 4 ∧ gI m 28 236 3 = 1 ∧ gI m 28 236 4 = 5 ∧ gI m 28 236 5 = 2 ∧ gI m 28 236 6 = 6)
theorem M_of {i w : Nat} {x y : Int32} (hx : x = iZ i) (hy : y = iZ w) (hD : DOK D) (hM : MD m D) (hi : i < D.1) (hw : w < 30) (h : K (some (vI (iZ (mw w (D.2.1 i w))))) m) : smC true 168 [vR (some (23, 231)), vI x, vI y] m K := by
  subst hx; subst hy
  have h48 := hD.1
  have e : (4 : Int32) + 30 * iZ (i : Int) + iZ (w : Int) = iZ ((4 + 30 * i + w : Nat) : Int) := by rw [L4, L30, iZ_mul, iZ_add, iZ_add]; congr 1
  have c : (iZ ((4 + 30 * i + w : Nat) : Int)).toNatClampNeg = 4 + 30 * i + w := by rw [iZ_clamp (by constructor <;> omega)]; omega
  refine smC_wp [some (vR (some (23, 231))), some (vI (iZ i)), some (vI (iZ w))] cd_168 [] 40 OK_168 (by decide) rfl rfl (Nat.le_of_ble_eq_true rfl) ?_
  refine And.intro (by rw [e]; exact (iZ_in (by constructor <;> omega)).mpr (by omega)) ?_
  rw [e, c, hM.2.1 i w hi hw]
  exact And.intro trivial h
theorem M_isThere {i : Int} {x : Int32} (hx : x = iZ i) (ri : R32 i) (hD : DOK D) (hM : MD m D) (h1 : 0 ≤ i ∧ i < D.1 → K (some (vI 1)) m) (h0 : ¬ (0 ≤ i ∧ i < D.1) → K (some (vI 0)) m) : smC true 167 [vR (some (23, 231)), vI x] m K := by
  subst hx
  have h48 := hD.1
  refine smC_wp [some (vR (some (23, 231))), some (vI (iZ i))] cd_167 [] 40 OK_167 (by decide) rfl rfl (Nat.le_of_ble_eq_true rfl) ?_
  refine And.intro (by rw [L0, iZ_in (by decide)]; decide) ?_
  refine And.intro trivial (M_isIn (v := i) (lo := 0) (hi := (D.1 : Int) - 1) (iZ_iL ri) rfl ?_ (by constructor <;> omega) (by decide) (by constructor <;> omega) (fun z => ?_) (fun z => ?_))
  · show (gI m 29 237 0 - 1).toInt64 = _
    rw [hM.1.1, L1, iZ_sub, iZ_iL (by constructor <;> omega)]
  · exact And.intro (Or.inr rfl) (h1 (by omega))
  · exact And.intro (Or.inl rfl) (h0 (by omega))
theorem M_isNote {i : Int} {x : Int32} (hx : x = iZ i) (ri : R32 i) (hD : DOK D) (hM : MD m D) (h1 : 0 ≤ i ∧ i < D.1 ∧ D.2.1 i.toNat 0 = 1 → K (some (vI 1)) m) (h0 : ¬ (0 ≤ i ∧ i < D.1 ∧ D.2.1 i.toNat 0 = 1) → K (some (vI 0)) m) : smC true 166 [vR (some (23, 231)), vI x] m K := by
  subst hx
  refine smC_wp [some (vR (some (23, 231))), some (vI (iZ i))] cd_166 [] 40 OK_166 (by decide) rfl rfl (Nat.le_of_ble_eq_true rfl) ?_
  refine And.intro trivial (M_isThere rfl ri hD hM (fun z => ?_) (fun z => ?_))
  · refine And.intro (fun w => absurd w (by decide)) (fun _ => ?_)
    have hn := hD.2.1 i.toNat (by omega)
    refine And.intro trivial (M_of (i := i.toNat) (w := 0) (by rw [Int.toNat_of_nonneg z.1]) rfl hD hM (by omega) (by decide) ?_)
    have e0 : mw 0 (D.2.1 i.toNat 0) = D.2.1 i.toNat 0 := rfl
    rw [e0]
    refine And.intro (fun w => ?_) (fun w => ?_)
    · rw [L1, iZ_eq (by rcases hn.1 with q | q <;> rw [q] <;> decide) (by decide)] at w
      exact And.intro (Or.inl rfl) (h0 (by omega))
    · rw [L1, iZ_eq (by rcases hn.1 with q | q <;> rw [q] <;> decide) (by decide)] at w
      exact And.intro (Or.inr rfl) (h1 ⟨z.1, z.2, w⟩)
  · refine And.intro (fun _ => ?_) (fun w => absurd rfl w)
    exact And.intro (Or.inl rfl) (h0 (by omega))
theorem M_plainOf {l o : Int} {x y : Int32} (hx : x = iZ l) (hy : y = iZ o) (hB : MB m) (hl : 0 ≤ l ∧ l < 7) (h : K (some (vI (iZ (12 * (o + 1) + bsN l)))) m) : smC true 155 [vR (some (23, 231)), vI x, vI y] m K := by
  subst hx; subst hy
  refine smC_wp [some (vR (some (23, 231))), some (vI (iZ l)), some (vI (iZ o))] cd_155 [] 40 OK_155 (by decide) rfl rfl (Nat.le_of_ble_eq_true rfl) ?_
  refine And.intro ((iZ_in (by constructor <;> omega)).mpr (by omega)) ?_
  refine And.intro trivial ?_
  have := hB.1 l.toNat (by omega)
  rw [Int.toNat_of_nonneg hl.1] at this
  rw [iZ_clamp (by constructor <;> omega), this, L12, L1, iZ_add, iZ_mul, iZ_add]
  exact h
def shp (k : Int) : Int := [3, 0, 4, 1, 5, 2, 6].getD k.toNat 0
theorem shp_1 : ∀ k : Nat, k < 7 → ∀ l : Nat, l < 7 → ((shp k = l ↔ (k : Int) = sbN l) ∧ (shp (6 - k) = l ↔ (k : Int) = fbN l)) ∧ (0 ≤ shp k ∧ shp k < 7) ∧ 0 ≤ shp (6 - k) ∧ shp (6 - k) < 7 := by decide
theorem shp_m (hB : MB m) : ∀ k : Nat, k < 7 → gI m 28 236 k = iZ (shp k) := by
  obtain ⟨_, a0, a1, a2, a3, a4, a5, a6⟩ := hB
  intro k hk
  have : k = 0 ∨ k = 1 ∨ k = 2 ∨ k = 3 ∨ k = 4 ∨ k = 5 ∨ k = 6 := by omega
  rcases this with rfl | rfl | rfl | rfl | rfl | rfl | rfl
  · exact a0
  · exact a1
  · exact a2
  · exact a3
  · exact a4
  · exact a5
  · exact a6
theorem M_alterBy {key l : Int} {x y : Int32} (hx : x = iZ key) (hy : y = iZ l) (hB : MB m) (hk : -7 ≤ key ∧ key ≤ 7) (hl : 0 ≤ l ∧ l < 7) (h : K (some (vI (iZ (altN key l)))) m) : smC true 156 [vR (some (23, 231)), vI x, vI y] m K := by
  subst hx; subst hy
  have fs : ∀ k : Nat, k < 7 → ((shp k = l ↔ (k : Int) = sbN l) ∧ (shp (6 - k) = l ↔ (k : Int) = fbN l)) ∧ (0 ≤ shp k ∧ shp k < 7) ∧ 0 ≤ shp (6 - k) ∧ shp (6 - k) < 7 := by
    intro k hk
    have := shp_1 k hk l.toNat (by omega)
    rwa [Int.toNat_of_nonneg hl.1] at this
  have hs := sb_in l.toNat (by omega)
  rw [Int.toNat_of_nonneg hl.1] at hs
  refine smC_wp [some (vR (some (23, 231))), some (vI (iZ key)), some (vI (iZ l)), none] cd_156 [2] 40 OK_156 (by decide) rfl rfl (Nat.le_of_ble_eq_true rfl) ?_
  refine And.intro trivial ?_
  have second : ∀ (f k : Nat), k + f = 7 → ¬ sbN l < key → (k : Int) ≤ fbN l → smE true 156 27 [some (vR (some (23, 231))), some (vI (iZ key)), some (vI (iZ l)), some (vI (iZ k))] [] m K := by
    intro f
    induction f with
    | zero => intro k e _ q; omega
    | succ f ih =>
      intro k e n1 q
      refine wp1_ok (by decide) OK_156 (cc := cd_156) rfl (stops := [27]) (f := 30) ?_
      refine And.intro (fun w => ?_) (fun w => ?_)
      · rw [iZ_neg, iZ_le (by constructor <;> omega) (by constructor <;> omega)] at w
        refine And.intro trivial ?_
        unfold altN at h
        rw [if_neg n1, if_neg (by omega)] at h
        exact h
      · rw [iZ_neg, iZ_le (by constructor <;> omega) (by constructor <;> omega)] at w
        have e6 : (6 : Int32) - iZ (k : Int) = iZ ((6 - k : Nat) : Int) := by rw [L6, iZ_sub]; congr 1; omega
        refine And.intro (by rw [e6]; exact (iZ_in (by constructor <;> omega)).mpr (by omega)) ?_
        have ec : (iZ ((6 - k : Nat) : Int)).toNatClampNeg = 6 - k := by rw [iZ_clamp (by constructor <;> omega)]; omega
        have ek : (((6 - k : Nat) : Int)) = 6 - (k : Int) := by omega
        have f1 := fs k (by omega)
        rw [e6, ec, shp_m hB (6 - k) (by omega), ek]
        refine And.intro (fun w2 => ?_) (fun w2 => ?_)
        · rw [iZ_eq (by constructor <;> omega) (by constructor <;> omega)] at w2
          refine And.intro trivial ?_
          rw [L1, iZ_add]
          refine ih (k + 1) (by omega) n1 ?_
          have : ¬ (k : Int) = fbN l := fun z => w2 (f1.1.2.mpr z)
          omega
        · rw [iZ_eq (by constructor <;> omega) (by constructor <;> omega)] at w2
          have := f1.1.2.mp w2
          refine And.intro trivial ?_
          unfold altN at h
          rw [if_neg n1, if_pos (by omega)] at h
          exact h
  have first : ∀ (f k : Nat), k + f = 7 → (k : Int) ≤ sbN l → smE true 156 2 [some (vR (some (23, 231))), some (vI (iZ key)), some (vI (iZ l)), some (vI (iZ k))] [] m K := by
    intro f
    induction f with
    | zero => intro k e q; omega
    | succ f ih =>
      intro k e q
      refine wp1_ok (by decide) OK_156 (cc := cd_156) rfl (stops := [2, 27]) (f := 30) ?_
      refine And.intro (fun w => ?_) (fun w => ?_)
      · rw [iZ_le (by constructor <;> omega) (by constructor <;> omega)] at w
        exact And.intro trivial (second 7 0 rfl (by omega) (by simpa using hs.2.1))
      · rw [iZ_le (by constructor <;> omega) (by constructor <;> omega)] at w
        refine And.intro ((iZ_in (by constructor <;> omega)).mpr (by omega)) ?_
        have ec : (iZ (k : Int)).toNatClampNeg = k := by rw [iZ_clamp (by constructor <;> omega)]; omega
        have f1 := fs k (by omega)
        rw [ec, shp_m hB k (by omega)]
        refine And.intro (fun w2 => ?_) (fun w2 => ?_)
        · rw [iZ_eq (by constructor <;> omega) (by constructor <;> omega)] at w2
          refine And.intro trivial ?_
          rw [L1, iZ_add]
          refine ih (k + 1) (by omega) ?_
          have : ¬ (k : Int) = sbN l := fun z => w2 (f1.1.1.mpr z)
          omega
        · rw [iZ_eq (by constructor <;> omega) (by constructor <;> omega)] at w2
          have := f1.1.1.mp w2
          refine And.intro trivial ?_
          unfold altN at h
          rw [if_pos (by omega)] at h
          exact h
  exact first 7 0 rfl (by simpa using hs.1.1)
end MLEAF
