/-! PITCHES: letters, octaves, numbers; what a key alters -/
def bsN (l : Int) : Int := [0, 2, 4, 5, 7, 9, 11].getD l.toNat 0
def sbN (l : Int) : Int := [1, 3, 5, 0, 2, 4, 6].getD l.toNat 0
def fbN (l : Int) : Int := [5, 3, 1, 6, 4, 2, 0].getD l.toNat 0
def altN (key l : Int) : Int := if sbN l < key then 1 else if fbN l < -key then -1 else 0
def natN (s : Int) : Int := 12 * (s / 7 + 1) + bsN (s % 7)
def byN (s sign key : Int) : Int := natN s + (if sign ≠ 2 then sign else altN key (s % 7))
def pit (num s : Int) : Int := num * 128 + s + 8
theorem iZ_ofNat {z : Int} (h : 0 ≤ z) : iZ z = nI z.toNat := by
  rw [iZ_nI]; congr 1; omega
theorem iZ_shr7 {z : Int} (h0 : 0 ≤ z) (h : R32 z) : iZ z >>> (7 &&& 31) = iZ (z / 128) := by
  rw [iZ_ofNat h0, pk_shrN (by omega) (7 &&& 31) 7 (by decide), iZ_nI]
  congr 1
  omega
theorem iZ_and127 {z : Int} (h0 : 0 ≤ z) (h : R32 z) : iZ z &&& 127 = iZ (z % 128) := by
  rw [iZ_ofNat h0, pk_andN (by omega) 7 (by decide), iZ_nI]
  congr 1
  omega
theorem pit_num {num s : Int} (h : -8 ≤ s ∧ s < 120) : pit num s / 128 = num := by unfold pit; omega
theorem pit_step {num s : Int} (h : -8 ≤ s ∧ s < 120) : pit num s % 128 - 8 = s := by unfold pit; omega
theorem bsN_rng (l : Int) (h : 0 ≤ l ∧ l < 7) : 0 ≤ bsN l ∧ bsN l ≤ 11 := by
  have : ∀ k : Nat, k < 7 → 0 ≤ bsN k ∧ bsN k ≤ 11 := by decide
  have := this l.toNat (by omega)
  rwa [Int.toNat_of_nonneg h.1] at this
theorem altN_rng (key l : Int) : -1 ≤ altN key l ∧ altN key l ≤ 1 := by unfold altN; split <;> (try split) <;> omega
section PIT
variable {md : Bool} {m : Mem} {K : Option SV → Mem → Prop}
theorem c_num {num s : Int} {x : Int32} (hx : x = iZ (pit num s)) (hs : -8 ≤ s ∧ s < 120) (hn : 0 ≤ num ∧ num < 1000) (h : K (some (vI (iZ num))) m) : smC md 106 [vI x] m K := by
  subst hx
  have hp : R32 (pit num s) := by unfold pit; constructor <;> omega
  refine c_numberOf ?_
  rw [iZ_shr7 (by unfold pit; omega) hp, pit_num hs]
  exact h
theorem c_step {num s : Int} {x : Int32} (hx : x = iZ (pit num s)) (hs : -8 ≤ s ∧ s < 120) (hn : 0 ≤ num ∧ num < 1000) (h : K (some (vI (iZ s))) m) : smC md 96 [vI x] m K := by
  subst hx
  have hp : R32 (pit num s) := by unfold pit; constructor <;> omega
  refine c_stepOf ?_
  rw [iZ_and127 (by unfold pit; omega) hp, L8, iZ_sub, pit_step hs]
  exact h
theorem c_pit {num s : Int} {x y : Int32} (hx : x = iZ s) (hy : y = iZ num) (h : K (some (vI (iZ (pit num s)))) m) : smC md 95 [vI x, vI y] m K := by
  subst hx; subst hy
  refine c_pitchOf ?_
  rw [L128, L8, iZ_mul, iZ_add, iZ_add]
  exact h
theorem fm_1 : ∀ k : Nat, k < 70 → 0 ≤ (iZ (k - 2) ^^^ 7) → iZ (k - 2) - iZ (k - 2) / 7 * 7 = iZ ((k - 2 : Int) % 7) := by decide +kernel
theorem fm_2 : ∀ k : Nat, k < 70 → ¬ 0 ≤ (iZ (k - 2) ^^^ 7) → iZ (k - 2) - iZ (k - 2) / 7 * 7 = 0 → iZ (k - 2) - iZ (k - 2) / 7 * 7 = iZ ((k - 2 : Int) % 7) := by decide +kernel
theorem fm_3 : ∀ k : Nat, k < 70 → ¬ 0 ≤ (iZ (k - 2) ^^^ 7) → ¬ iZ (k - 2) - iZ (k - 2) / 7 * 7 = 0 → iZ (k - 2) - iZ (k - 2) / 7 * 7 + 7 = iZ ((k - 2 : Int) % 7) := by decide +kernel
theorem c_mod7 {z : Int} (hz : -2 ≤ z ∧ z < 68) (h : K (some (vI (iZ (z % 7)))) m) : smC md 248 [vI (iZ z), vI 7] m K := by
  refine smC_wp [some (vI (iZ z)), some (vI 7), none] cd_248 [] 30 OK_248 (by decide) rfl rfl (Nat.le_of_ble_eq_true rfl) ?_
  have e : z = (((z + 2).toNat : Int) - 2) := by omega
  have hk : (z + 2).toNat < 70 := by omega
  generalize (z + 2).toNat = k at e hk
  subst e
  refine And.intro (by decide) ?_
  refine And.intro (fun h1 => ?_) (fun h1 => ?_)
  · refine And.intro trivial ?_
    rw [fm_1 k hk h1]; exact h
  · refine And.intro (fun h2 => ?_) (fun h2 => ?_)
    · refine And.intro trivial ?_
      rw [fm_2 k hk h1 h2]; exact h
    · refine And.intro trivial ?_
      rw [fm_3 k hk h1 h2]; exact h
theorem fd_1 : ∀ k : Nat, k < 70 → 0 ≤ (iZ (k - 2) ^^^ 7) → iZ (k - 2) / 7 = iZ ((k - 2 : Int) / 7) := by decide +kernel
theorem fd_2 : ∀ k : Nat, k < 70 → ¬ 0 ≤ (iZ (k - 2) ^^^ 7) → iZ (k - 2) / 7 * 7 = iZ (k - 2) → iZ (k - 2) / 7 = iZ ((k - 2 : Int) / 7) := by decide +kernel
theorem fd_3 : ∀ k : Nat, k < 70 → ¬ 0 ≤ (iZ (k - 2) ^^^ 7) → ¬ iZ (k - 2) / 7 * 7 = iZ (k - 2) → iZ (k - 2) / 7 - 1 = iZ ((k - 2 : Int) / 7) := by decide +kernel
theorem c_div7 {z : Int} (hz : -2 ≤ z ∧ z < 68) (h : K (some (vI (iZ (z / 7)))) m) : smC md 247 [vI (iZ z), vI 7] m K := by
  refine smC_wp [some (vI (iZ z)), some (vI 7), none] cd_247 [] 30 OK_247 (by decide) rfl rfl (Nat.le_of_ble_eq_true rfl) ?_
  have e : z = (((z + 2).toNat : Int) - 2) := by omega
  have hk : (z + 2).toNat < 70 := by omega
  generalize (z + 2).toNat = k at e hk
  subst e
  refine And.intro (by decide) ?_
  refine And.intro (fun h1 => ?_) (fun h1 => ?_)
  · refine And.intro trivial ?_
    rw [fd_1 k hk h1]; exact h
  · refine And.intro (fun h2 => ?_) (fun h2 => ?_)
    · refine And.intro trivial ?_
      rw [fd_2 k hk h1 h2]; exact h
    · refine And.intro trivial ?_
      rw [fd_3 k hk h1 h2]; exact h
theorem st6 : ∀ k : Nat, k < 7 → stT 60 6 k = iZ (bsN k) := by decide +kernel
theorem st7 : ∀ k : Nat, k < 7 → stT 60 7 k = iZ (sbN k) := by decide +kernel
theorem st8 : ∀ k : Nat, k < 7 → stT 60 8 k = iZ (fbN k) := by decide +kernel
theorem sb_in : ∀ k : Nat, k < 7 → (0 ≤ sbN k ∧ sbN k < 7) ∧ 0 ≤ fbN k ∧ fbN k < 7 := by decide
theorem m7 (z : Int) : 0 ≤ z % 7 ∧ z % 7 < 7 := by omega
theorem c_letterOf {z : Int} (hz : -2 ≤ z ∧ z < 68) (h : K (some (vI (iZ (z % 7)))) m) : smC md 117 [vI (iZ z)] m K := by
  refine smC_wp [some (vI (iZ z))] cd_117 [] 30 OK_117 (by decide) rfl rfl (Nat.le_of_ble_eq_true rfl) ?_
  refine And.intro trivial (c_mod7 hz ?_)
  exact And.intro trivial h
theorem c_octaveOf {z : Int} (hz : -2 ≤ z ∧ z < 68) (h : K (some (vI (iZ (z / 7)))) m) : smC md 118 [vI (iZ z)] m K := by
  refine smC_wp [some (vI (iZ z))] cd_118 [] 30 OK_118 (by decide) rfl rfl (Nat.le_of_ble_eq_true rfl) ?_
  refine And.intro trivial (c_div7 hz ?_)
  exact And.intro trivial h
theorem c_natural {z : Int} (hz : -2 ≤ z ∧ z < 68) (h : K (some (vI (iZ (natN z)))) m) : smC md 93 [vI (iZ z)] m K := by
  refine smC_wp [some (vI (iZ z))] cd_93 [] 30 OK_93 (by decide) rfl rfl (Nat.le_of_ble_eq_true rfl) ?_
  refine And.intro trivial (c_div7 hz ?_)
  refine And.intro trivial (c_mod7 hz ?_)
  have h7 := m7 z
  refine And.intro ((iZ_in (by constructor <;> omega)).mpr h7) ?_
  refine And.intro trivial ?_
  rw [iZ_clamp (by constructor <;> omega), st6 _ (by omega), L12, L1, iZ_add, iZ_mul, iZ_add, Int.toNat_of_nonneg h7.1]
  exact h
theorem c_keySign {z key : Int} (hz : -2 ≤ z ∧ z < 68) (hk : -7 ≤ key ∧ key ≤ 7) (h : K (some (vI (iZ (altN key (z % 7))))) m) : smC md 94 [vI (iZ z), vI (iZ key)] m K := by
  refine smC_wp [some (vI (iZ z)), some (vI (iZ key)), none] cd_94 [] 40 OK_94 (by decide) rfl rfl (Nat.le_of_ble_eq_true rfl) ?_
  refine And.intro trivial (c_mod7 hz ?_)
  have h7 := m7 z
  have hs := sb_in (z % 7).toNat (by omega)
  rw [Int.toNat_of_nonneg h7.1] at hs
  refine And.intro ((iZ_in (by constructor <;> omega)).mpr h7) ?_
  rw [iZ_clamp (by constructor <;> omega), st7 _ (by omega), Int.toNat_of_nonneg h7.1]
  unfold altN at h
  refine And.intro (fun h1 => ?_) (fun h1 => ?_)
  · rw [iZ_le (by constructor <;> omega) (by constructor <;> omega)] at h1
    rw [if_neg (by omega)] at h
    refine And.intro ((iZ_in (by constructor <;> omega)).mpr h7) ?_
    rw [iZ_clamp (by constructor <;> omega), st8 _ (by omega), Int.toNat_of_nonneg h7.1]
    refine And.intro (fun h2 => ?_) (fun h2 => ?_)
    · rw [iZ_neg, iZ_le (by constructor <;> omega) (by constructor <;> omega)] at h2
      rw [if_neg (by omega)] at h
      exact And.intro trivial h
    · rw [iZ_neg, iZ_le (by constructor <;> omega) (by constructor <;> omega)] at h2
      rw [if_pos (by omega)] at h
      exact And.intro trivial h
  · rw [iZ_le (by constructor <;> omega) (by constructor <;> omega)] at h1
    rw [if_pos (by omega)] at h
    exact And.intro trivial h
theorem c_numberBy {z sign key : Int} {x y w : Int32} (hx : x = iZ z) (hy : y = iZ sign) (hw : w = iZ key) (hz : -2 ≤ z ∧ z < 68) (hk : -7 ≤ key ∧ key ≤ 7) (hs : -1 ≤ sign ∧ sign ≤ 2) (h : K (some (vI (iZ (byN z sign key)))) m) : smC md 92 [vI x, vI y, vI w] m K := by
  subst hx; subst hy; subst hw
  refine smC_wp [some (vI (iZ z)), some (vI (iZ sign)), some (vI (iZ key))] cd_92 [] 40 OK_92 (by decide) rfl rfl (Nat.le_of_ble_eq_true rfl) ?_
  refine And.intro trivial (c_natural hz ?_)
  unfold byN at h
  refine And.intro (fun h1 => ?_) (fun h1 => ?_)
  · rw [L2, iZ_eq (by constructor <;> omega) (by constructor <;> omega)] at h1
    rw [if_neg (by omega)] at h
    refine And.intro trivial (c_keySign hz hk ?_)
    refine And.intro trivial ?_
    rw [iZ_add]; exact h
  · rw [L2, iZ_eq (by constructor <;> omega) (by constructor <;> omega)] at h1
    rw [if_pos (by omega)] at h
    refine And.intro trivial ?_
    rw [iZ_add]; exact h
end PIT
