/-! NUMBERS: an int as the image of an Int -/
def iZ (z : Int) : Int32 := Int32.ofInt z
def iL (z : Int) : Int64 := Int64.ofInt z
abbrev R32 (z : Int) : Prop := -2147483648 ≤ z ∧ z < 2147483648
abbrev R64 (z : Int) : Prop := -9223372036854775808 ≤ z ∧ z < 9223372036854775808
theorem nb32 {z : Int} (h : R32 z) : z.bmod (2 ^ 32) = z := by
  rw [Int.bmod_eq_of_le (by omega) (by omega)]
theorem nb64 {z : Int} (h : R64 z) : z.bmod (2 ^ 64) = z := by
  rw [Int.bmod_eq_of_le (by omega) (by omega)]
theorem iZ_add (a b : Int) : iZ a + iZ b = iZ (a + b) := (Int32.ofInt_add a b).symm
theorem iZ_sub (a b : Int) : iZ a - iZ b = iZ (a - b) := (Int32.ofInt_sub a b).symm
theorem iZ_mul (a b : Int) : iZ a * iZ b = iZ (a * b) := (Int32.ofInt_mul a b).symm
theorem iZ_neg (a : Int) : -iZ a = iZ (-a) := (Int32.ofInt_neg a).symm
theorem iZ_lit (n : Nat) : (OfNat.ofNat n : Int32) = iZ (OfNat.ofNat n : Int) := by
  show Int32.ofNat n = Int32.ofInt (n : Int)
  exact (Int32.ofInt_eq_ofNat (n := n)).symm
theorem iZ_nI (n : Nat) : nI n = iZ n := (Int32.ofInt_eq_ofNat (n := n)).symm
theorem iZ_toInt {z : Int} (h : R32 z) : (iZ z).toInt = z := by
  show (Int32.ofInt z).toInt = z
  rw [Int32.toInt_ofInt]; exact nb32 h
theorem iZ_as (x : Int32) : x = iZ x.toInt := (Int32.ofInt_toInt x).symm
theorem iZ_rng (x : Int32) : R32 x.toInt := by
  have h1 := Int32.le_toInt x
  have h2 := Int32.toInt_lt x
  constructor <;> omega
theorem iZ_lt {a b : Int} (ha : R32 a) (hb : R32 b) : iZ a < iZ b ↔ a < b := by
  rw [Int32.lt_iff_toInt_lt, iZ_toInt ha, iZ_toInt hb]
theorem iZ_le {a b : Int} (ha : R32 a) (hb : R32 b) : iZ a ≤ iZ b ↔ a ≤ b := by
  rw [Int32.le_iff_toInt_le, iZ_toInt ha, iZ_toInt hb]
theorem iZ_eq {a b : Int} (ha : R32 a) (hb : R32 b) : iZ a = iZ b ↔ a = b := by
  rw [← Int32.toInt_inj, iZ_toInt ha, iZ_toInt hb]
theorem iZ_clamp {z : Int} (h : R32 z) : (iZ z).toNatClampNeg = z.toNat := by
  show (iZ z).toInt.toNat = z.toNat
  rw [iZ_toInt h]
theorem iZ_in {z : Int} {n : Nat} (h : R32 z) : vp_in (iZ z) n ↔ 0 ≤ z ∧ z < n := by
  rw [vp_in_iff, iZ_toInt h]
theorem iZ_inj {z : Int} {x : Int32} (h : x.toInt = z) : x = iZ z := by rw [← h]; exact iZ_as x
theorem iZ_div {a b : Int} (ha : R32 a) (hb : R32 b) (h0 : 0 ≤ a) (h1 : 0 < b) : iZ a / iZ b = iZ (a / b) := by
  apply iZ_inj
  rw [Int32.toInt_div, iZ_toInt ha, iZ_toInt hb, Int.tdiv_eq_ediv_of_nonneg h0]
  have h2 : a / b ≤ a := Int.ediv_le_self b h0
  have h3 : 0 ≤ a / b := Int.ediv_nonneg h0 (by omega)
  rw [Int.bmod_eq_of_le (by omega) (by omega)]
theorem iZ_rem {a b : Int} (ha : R32 a) (hb : R32 b) (h0 : 0 ≤ a) (h1 : 0 < b) : iZ a - iZ a / iZ b * iZ b = iZ (a % b) := by
  rw [iZ_div ha hb h0 h1, iZ_mul, iZ_sub]
  congr 1
  have := Int.emod_add_mul_ediv a b
  rw [Int.mul_comm] at this
  omega
theorem iL_add (a b : Int) : iL a + iL b = iL (a + b) := (Int64.ofInt_add a b).symm
theorem iL_sub (a b : Int) : iL a - iL b = iL (a - b) := (Int64.ofInt_sub a b).symm
theorem iL_mul (a b : Int) : iL a * iL b = iL (a * b) := (Int64.ofInt_mul a b).symm
theorem iL_lit (n : Nat) : (OfNat.ofNat n : Int64) = iL (OfNat.ofNat n : Int) := by
  show Int64.ofNat n = Int64.ofInt (n : Int)
  exact (Int64.ofInt_eq_ofNat (n := n)).symm
theorem iL_neg (a : Int) : -iL a = iL (-a) := (Int64.ofInt_neg a).symm
theorem iL_toInt {z : Int} (h : R64 z) : (iL z).toInt = z := by
  show (Int64.ofInt z).toInt = z
  rw [Int64.toInt_ofInt]; exact nb64 h
theorem iL_lt {a b : Int} (ha : R64 a) (hb : R64 b) : iL a < iL b ↔ a < b := by
  rw [Int64.lt_iff_toInt_lt, iL_toInt ha, iL_toInt hb]
theorem iL_le {a b : Int} (ha : R64 a) (hb : R64 b) : iL a ≤ iL b ↔ a ≤ b := by
  rw [Int64.le_iff_toInt_le, iL_toInt ha, iL_toInt hb]
theorem iL_eq {a b : Int} (ha : R64 a) (hb : R64 b) : iL a = iL b ↔ a = b := by
  rw [← Int64.toInt_inj, iL_toInt ha, iL_toInt hb]
theorem iZ_iL {z : Int} (h : R32 z) : (iZ z).toInt64 = iL z := by
  apply Int64.toInt_inj.mp
  rw [Int32.toInt_toInt64, iZ_toInt h, iL_toInt (by constructor <;> omega)]
theorem iL_iZ {z : Int} (h : R32 z) : (iL z).toInt32 = iZ z := by
  apply Int32.toInt_inj.mp
  rw [Int64.toInt_toInt32, iZ_toInt h, iL_toInt (by constructor <;> omega), Int.bmod_eq_of_le (by omega) (by omega)]
theorem iL_div {a b : Int} (ha : R64 a) (hb : R64 b) (h0 : 0 ≤ a) (h1 : 0 < b) : iL a / iL b = iL (a / b) := by
  apply Int64.toInt_inj.mp
  have h2 : a / b ≤ a := Int.ediv_le_self b h0
  have h3 : 0 ≤ a / b := Int.ediv_nonneg h0 (by omega)
  rw [Int64.toInt_div, iL_toInt ha, iL_toInt hb, Int.tdiv_eq_ediv_of_nonneg h0, iL_toInt (by constructor <;> omega), Int.bmod_eq_of_le (by omega) (by omega)]
theorem lg_lt {x y : Int64} : lg_cmp x y < 0 ↔ x < y := by
  unfold lg_cmp
  split
  · rename_i h
    constructor
    · intro z; exact absurd z (by decide)
    · intro z; exact absurd h (Int64.lt_asymm z)
  · split
    · rename_i h1 h2
      constructor
      · intro z; exact absurd z (by decide)
      · intro z; exact (Int64.lt_irrefl (by rw [h2] at z; exact z)).elim
    · rename_i h1 h2
      constructor
      · intro _
        have a1 : ¬ y.toInt < x.toInt := fun z => h1 (Int64.lt_iff_toInt_lt.mpr z)
        have a2 : x.toInt ≠ y.toInt := fun z => h2 (Int64.toInt_inj.mp z)
        exact Int64.lt_iff_toInt_lt.mpr (by omega)
      · intro _; decide
theorem lg_le {x y : Int64} : lg_cmp x y ≤ 0 ↔ x ≤ y := by
  unfold lg_cmp
  split
  · rename_i h
    constructor
    · intro z; exact absurd z (by decide)
    · intro z
      have a1 := Int64.lt_iff_toInt_lt.mp h
      have a2 := Int64.le_iff_toInt_le.mp z
      omega
  · rename_i h1
    split
    · rename_i h2
      constructor
      · intro _; rw [h2]; exact Int64.le_refl _
      · intro _; decide
    · rename_i h2
      constructor
      · intro _
        have a1 : ¬ y.toInt < x.toInt := fun z => h1 (Int64.lt_iff_toInt_lt.mpr z)
        exact Int64.le_iff_toInt_le.mpr (by omega)
      · intro _; decide
theorem lg_eq {x y : Int64} : lg_cmp x y = 0 ↔ x = y := by
  unfold lg_cmp
  split
  · rename_i h
    constructor
    · intro z; exact absurd z (by decide)
    · intro z; subst z; exact (Int64.lt_irrefl h).elim
  · split
    · rename_i h2
      exact ⟨fun _ => h2, fun _ => rfl⟩
    · rename_i h2
      constructor
      · intro z; exact absurd z (by decide)
      · intro z; exact absurd z h2
theorem lg_gt {x y : Int64} : 0 < lg_cmp x y ↔ y < x := by
  unfold lg_cmp
  split
  · rename_i h
    exact ⟨fun _ => h, fun _ => by decide⟩
  · rename_i h
    split
    · exact ⟨fun z => absurd z (by decide), fun z => absurd z h⟩
    · exact ⟨fun z => absurd z (by decide), fun z => absurd z h⟩
theorem lg_ge {x y : Int64} : 0 ≤ lg_cmp x y ↔ y ≤ x := by
  unfold lg_cmp
  split
  · rename_i h
    exact ⟨fun _ => Int64.le_of_lt h, fun _ => by decide⟩
  · rename_i h
    split
    · rename_i h2
      exact ⟨fun _ => by rw [h2]; exact Int64.le_refl _, fun _ => by decide⟩
    · rename_i h2
      refine ⟨fun z => absurd z (by decide), fun z => ?_⟩
      have a1 : ¬ y.toInt < x.toInt := fun q => h (Int64.lt_iff_toInt_lt.mpr q)
      have a2 := Int64.le_iff_toInt_le.mp z
      exact absurd (Int64.toInt_inj.mp (by omega)) h2
