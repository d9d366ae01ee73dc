/-! FEED: both sides -/
/-- byte j of a word, the highest first -/
def byt (x : Int32) (j : Nat) : Int := x.toInt / 2 ^ (24 - 8 * j) % 256
theorem byt_rng (x : Int32) (j : Nat) : 0 ≤ byt x j ∧ byt x j ≤ 255 := by unfold byt; omega
theorem bv_lo (b : BitVec 32) : (b &&& 255#32).toInt = ((b.toNat % 256 : Nat) : Int) := by
  have h : (b &&& 255#32).toNat = b.toNat % 256 := by
    rw [BitVec.toNat_and]
    exact Nat.and_two_pow_sub_one_eq_mod b.toNat 8
  rw [BitVec.toInt_eq_toNat_cond, h, if_pos (by omega)]
theorem i32_toInt (x : Int32) : x.toInt = if 2 * x.toBitVec.toNat < 2 ^ 32 then (x.toBitVec.toNat : Int) else (x.toBitVec.toNat : Int) - (2 ^ 32 : Nat) := by
  show x.toBitVec.toInt = _
  rw [BitVec.toInt_eq_toNat_cond]
theorem cby0 (x : Int32) : (x.toUInt32 >>> ((24 : Int32).toUInt32 &&& Int32.toUInt32 31)).toInt32 &&& 255 = iZ (byt x 0) := by
  apply iZ_inj
  show ((x.toBitVec >>> (24 : Nat)) &&& 255#32).toInt = byt x 0
  rw [bv_lo, BitVec.toNat_ushiftRight, Nat.shiftRight_eq_div_pow]
  unfold byt
  rw [i32_toInt]
  have := x.toBitVec.isLt
  split <;> omega
theorem cby1 (x : Int32) : (x.toUInt32 >>> ((16 : Int32).toUInt32 &&& Int32.toUInt32 31)).toInt32 &&& 255 = iZ (byt x 1) := by
  apply iZ_inj
  show ((x.toBitVec >>> (16 : Nat)) &&& 255#32).toInt = byt x 1
  rw [bv_lo, BitVec.toNat_ushiftRight, Nat.shiftRight_eq_div_pow]
  unfold byt
  rw [i32_toInt]
  have := x.toBitVec.isLt
  split <;> omega
theorem cby2 (x : Int32) : (x.toUInt32 >>> ((8 : Int32).toUInt32 &&& Int32.toUInt32 31)).toInt32 &&& 255 = iZ (byt x 2) := by
  apply iZ_inj
  show ((x.toBitVec >>> (8 : Nat)) &&& 255#32).toInt = byt x 2
  rw [bv_lo, BitVec.toNat_ushiftRight, Nat.shiftRight_eq_div_pow]
  unfold byt
  rw [i32_toInt]
  have := x.toBitVec.isLt
  split <;> omega
theorem cby3 (x : Int32) : (x.toUInt32 >>> ((0 : Int32).toUInt32 &&& Int32.toUInt32 31)).toInt32 &&& 255 = iZ (byt x 3) := by
  apply iZ_inj
  show ((x.toBitVec >>> (0 : Nat)) &&& 255#32).toInt = byt x 3
  rw [bv_lo, BitVec.toNat_ushiftRight, Nat.shiftRight_eq_div_pow]
  unfold byt
  rw [i32_toInt]
  have := x.toBitVec.isLt
  split <;> omega
theorem i2b_sg (v : Int32) : v.toInt8.toInt32.toInt8.toInt32 = iZ (sg (v.toInt % 256)) := by
  apply iZ_inj
  rw [Int8.toInt_toInt32, Int32.toInt_toInt8, Int8.toInt_toInt32, Int32.toInt_toInt8]
  unfold sg Int.bmod
  simp only []
  split <;> split <;> split <;> omega
theorem shr_toInt (x : Int32) (s : Nat) (y : Int32) (h : x >>> y = ⟨⟨x.toBitVec.sshiftRight s⟩⟩) : (x >>> y).toInt = x.toInt / 2 ^ s := by
  rw [h]
  show (x.toBitVec.sshiftRight s).toInt = x.toInt / 2 ^ s
  rw [BitVec.toInt_sshiftRight, Int.shiftRight_eq_div_pow]
  rfl
theorem mby (x : Int32) (j : Nat) (hj : j < 4) : (x >>> (iZ (24 - 8 * (j : Int)) &&& 31)).toInt8.toInt32.toInt8.toInt32 = iZ (sg (byt x j)) := by
  rw [i2b_sg]
  congr 2
  have hc : j = 0 ∨ j = 1 ∨ j = 2 ∨ j = 3 := by omega
  rcases hc with rfl | rfl | rfl | rfl
  · unfold byt; rw [shr_toInt x 24 _ rfl]
  · unfold byt; rw [shr_toInt x 16 _ rfl]
  · unfold byt; rw [shr_toInt x 8 _ rfl]
  · unfold byt; rw [shr_toInt x 0 _ rfl]
def x5 (a b c d e : Int32) (i : Nat) : Int32 := if i = 0 then a else if i = 1 then b else if i = 2 then c else if i = 3 then d else e
/-- the tape behind a feed -/
def tpF (tp : Nat → Int) (td : Nat) (xs : Nat → Int32) : Nat → Int := fun k => if td ≤ k ∧ k < td + 20 then byt (xs ((k - td) / 4)) ((k - td) % 4) else tp k
theorem tpF_ok {tp : Nat → Int} {td : Nat} {xs : Nat → Int32} (h : TPOK tp) : TPOK (tpF tp td xs) := by
  intro k hk
  unfold tpF
  split
  · exact byt_rng _ _
  · exact h k hk
section FEED
variable {m : Mem} {K : Option SV → Mem → Prop} {tp : Nat → Int} {td : Nat}
def AFd (td l : Nat) : Nat → Nat → Nat → Prop := fun t n k => (t = 2 ∧ n = 2 ∧ td ≤ k ∧ k < td + l) ∨ (t = 1 ∧ n = 1 ∧ k = 1)
theorem c_putBytes {x : Int32} (e1 : gI m 1 1 1 = iZ td) (ht : td + 4 ≤ 800) (h : ∀ m', (∀ j, j < 4 → gI m' 2 2 (td + j) = iZ (byt x j)) → gI m' 1 1 1 = iZ ((td + 4 : Nat) : Int) → Fr (AFd td 4) m m' → K none m') : smC true 9 [vR (some (1, 1)), vI x] m K := by
  have step : ∀ (v : Int32) (j : Nat) (mz : Mem), j < 4 → ¬ v < 0 → (x.toUInt32 >>> (v.toUInt32 &&& Int32.toUInt32 31)).toInt32 &&& 255 = iZ (byt x j) → gI mz 1 1 1 = iZ ((td + j : Nat) : Int) → (∀ i, i < j → gI mz 2 2 (td + i) = iZ (byt x i)) → Fr (AFd td 4) m mz → (∀ mb, gI mb 1 1 1 = iZ ((td + (j + 1) : Nat) : Int) → (∀ i, i < j + 1 → gI mb 2 2 (td + i) = iZ (byt x i)) → Fr (AFd td 4) m mb → smE true 9 3 [some (vR (some (1, 1))), some (vI x), some (vI (v + -8))] [] mb K) → smE true 9 3 [some (vR (some (1, 1))), some (vI x), some (vI v)] [] mz K := by
    intro v j mz hj hv hb y1 yt Fz hn
    refine wp1_ok (by decide) OK_9 (cc := cd_9) rfl (stops := [3]) (f := 40) ?_
    refine And.intro (fun z => absurd z hv) (fun _ => ?_)
    refine And.intro (fun z => ?_) (fun _ => ?_)
    · rw [y1, iZ_nI, iZ_le (by decide) (by constructor <;> omega)] at z; omega
    refine And.intro (by rw [y1]; exact (iZ_in (by constructor <;> omega)).mpr (by omega)) ?_
    refine And.intro trivial ?_
    have ec : (iZ ((td + j : Nat) : Int)).toNatClampNeg = td + j := by rw [iZ_clamp (by constructor <;> omega)]; omega
    have q1 : gI (sI mz 2 2 (td + j) (iZ (byt x j))) 1 1 1 = iZ ((td + j : Nat) : Int) := by rw [gI_s, if_neg (by omega)]; exact y1
    rw [y1, ec, hb, q1, L1, iZ_add]
    refine hn _ ?_ (fun i hi => ?_) (Fz.tr ((Fr.st (Or.inl ⟨rfl, rfl, by omega, by omega⟩)).tr (Fr.st (Or.inr ⟨rfl, rfl, rfl⟩))))
    · rw [gI_s, if_pos ⟨rfl, rfl, rfl⟩]; congr 1
    · rw [gI_s, if_neg (by omega), gI_s]
      by_cases e : i = j
      · rw [if_pos ⟨by rw [e], rfl, rfl⟩, e]
      · rw [if_neg (by omega)]; exact yt i (by omega)
  refine smC_wp [some (vR (some (1, 1))), some (vI x), none] cd_9 [3] 30 OK_9 (by decide) rfl rfl (Nat.le_of_ble_eq_true rfl) ?_
  refine And.intro trivial ?_
  refine step 24 0 m (by decide) (by decide) (cby0 x) e1 (fun i hi => by omega) (Fr.rf _ _) (fun m1 y1 t1' F1 => ?_)
  refine step (24 + -8) 1 m1 (by decide) (by decide) (cby1 x) y1 t1' F1 (fun m2 y2 t2' F2 => ?_)
  refine step (24 + -8 + -8) 2 m2 (by decide) (by decide) (cby2 x) y2 t2' F2 (fun m3 y3 t3' F3 => ?_)
  refine step (24 + -8 + -8 + -8) 3 m3 (by decide) (by decide) (cby3 x) y3 t3' F3 (fun m4 y4 t4' F4 => ?_)
  refine wp1_ok (by decide) OK_9 (cc := cd_9) rfl (stops := [3]) (f := 40) ?_
  refine And.intro (fun _ => ?_) (fun z => absurd (by decide) z)
  exact And.intro trivial (h m4 t4' y4 F4)
theorem c_feed {a b c d e : Int32} (e1 : gI m 1 1 1 = iZ td) (htd : td ≤ 800) (hc : ∀ k, k < 800 → gI m 2 2 k = iZ (tp k))
    (hB : ¬ td + 20 ≤ 800 → K (some (vI (iZ (-4)))) m) (hS : ∀ m', td + 20 ≤ 800 → (∀ k, k < 800 → gI m' 2 2 k = iZ (tpF tp td (x5 a b c d e) k)) → gI m' 1 1 1 = iZ ((td + 20 : Nat) : Int) → Fr (AFd td 20) m m' → K (some (vI (iZ ((td + 20 : Nat) : Int)))) m') : smC true 89 [vR (some (0, 0)), vI a, vI b, vI c, vI d, vI e] m K := by
  refine smC_wp [some (vR (some (0, 0))), some (vI a), some (vI b), some (vI c), some (vI d), some (vI e)] cd_89 [] 60 OK_89 (by decide) rfl rfl (Nat.le_of_ble_eq_true rfl) ?_
  refine And.intro (fun z => ?_) (fun z => ?_)
  rotate_left
  · rw [e1, L20, L800, iZ_add, iZ_le (by constructor <;> omega) (by decide)] at z
    exact And.intro trivial (hB (by omega))
  rw [e1, L20, L800, iZ_add, iZ_le (by constructor <;> omega) (by decide)] at z
  have z : td + 20 ≤ 800 := by omega
  refine And.intro trivial (c_putBytes (td := td) e1 (by omega) (fun m1 b1 y1 F1 => ?_))
  refine And.intro trivial (c_putBytes (td := td + 4) y1 (by omega) (fun m2 b2 y2 F2 => ?_))
  refine And.intro trivial (c_putBytes (td := td + 4 + 4) y2 (by omega) (fun m3 b3 y3 F3 => ?_))
  refine And.intro trivial (c_putBytes (td := td + 4 + 4 + 4) y3 (by omega) (fun m4 b4 y4 F4 => ?_))
  refine And.intro trivial (c_putBytes (td := td + 4 + 4 + 4 + 4) y4 (by omega) (fun m5 b5 y5 F5 => ?_))
  refine And.intro trivial ?_
  rw [y5]
  refine hS m5 z (fun k hk => ?_) y5 ((((F1.mono ?_).tr (F2.mono ?_)).tr (F3.mono ?_)).tr ((F4.mono ?_).tr (F5.mono ?_)))
  · unfold tpF
    by_cases h0 : td ≤ k ∧ k < td + 20
    · rw [if_pos h0]
      have hq : (k - td) / 4 = 0 ∨ (k - td) / 4 = 1 ∨ (k - td) / 4 = 2 ∨ (k - td) / 4 = 3 ∨ (k - td) / 4 = 4 := by omega
      have hr : (k - td) % 4 < 4 := by omega
      rcases hq with hq | hq | hq | hq | hq
      · rw [hq, show x5 a b c d e 0 = a from rfl, ← b1 _ hr, F5.2 _ _ _ (by unfold AFd; omega), F4.2 _ _ _ (by unfold AFd; omega), F3.2 _ _ _ (by unfold AFd; omega), F2.2 _ _ _ (by unfold AFd; omega)]
        congr 1; omega
      · rw [hq, show x5 a b c d e 1 = b from rfl, ← b2 _ hr, F5.2 _ _ _ (by unfold AFd; omega), F4.2 _ _ _ (by unfold AFd; omega), F3.2 _ _ _ (by unfold AFd; omega)]
        congr 1; omega
      · rw [hq, show x5 a b c d e 2 = c from rfl, ← b3 _ hr, F5.2 _ _ _ (by unfold AFd; omega), F4.2 _ _ _ (by unfold AFd; omega)]
        congr 1; omega
      · rw [hq, show x5 a b c d e 3 = d from rfl, ← b4 _ hr, F5.2 _ _ _ (by unfold AFd; omega)]
        congr 1; omega
      · rw [hq, show x5 a b c d e 4 = e from rfl, ← b5 _ hr]
        congr 1; omega
    · rw [if_neg h0, F5.2 _ _ _ (by unfold AFd; omega), F4.2 _ _ _ (by unfold AFd; omega), F3.2 _ _ _ (by unfold AFd; omega), F2.2 _ _ _ (by unfold AFd; omega), F1.2 _ _ _ (by unfold AFd; omega)]
      exact hc k hk
  all_goals
    intro t n k z
    unfold AFd at z ⊢
    omega
/-- the Model's feed -/
def AMF (td : Nat) : Nat → Nat → Nat → Prop := fun t n k => (t = 31 ∧ n = 239 ∧ td ≤ k ∧ k < td + 20) ∨ (t = 23 ∧ n = 231 ∧ (k = 0 ∨ k = 9))
theorem M_feed {a b c d e : Int32} (e1 : gI m 23 231 9 = iZ td) (htd : td ≤ 800) (hc : ∀ k, k < 800 → gI m 31 239 k = iZ (sg (tp k)))
    (hB : ∀ m', ¬ td + 20 ≤ 800 → gI m' 23 231 0 = 0 → Fr (fun t n k => t = 23 ∧ n = 231 ∧ k = 0) m m' → K (some (vI (iZ (-4)))) m') (hS : ∀ m', td + 20 ≤ 800 → (∀ k, k < 800 → gI m' 31 239 k = iZ (sg (tpF tp td (x5 a b c d e) k))) → gI m' 23 231 9 = iZ ((td + 20 : Nat) : Int) → gI m' 23 231 0 = 0 → Fr (AMF td) m m' → K (some (vI (iZ ((td + 20 : Nat) : Int)))) m') : smC true 133 [vR (some (23, 231)), vI a, vI b, vI c, vI d, vI e] m K := by
  refine smC_wp [some (vR (some (23, 231))), some (vI a), some (vI b), some (vI c), some (vI d), some (vI e), none, none] cd_133 [5] 60 OK_133 (by decide) rfl rfl (Nat.le_of_ble_eq_true rfl) ?_
  refine And.intro trivial ?_
  have F0 : Fr (fun t n k => t = 23 ∧ n = 231 ∧ k = 0) m (sI m 23 231 0 0) := Fr.st ⟨rfl, rfl, rfl⟩
  have z0 : gI (sI m 23 231 0 0) 23 231 0 = 0 := by rw [gI_s, if_pos ⟨rfl, rfl, rfl⟩]
  generalize sI m 23 231 0 0 = m0 at *
  have a9 : gI m0 23 231 9 = iZ td := (F0.2 _ _ _ (by omega)).trans e1
  refine wp1_ok (by decide) OK_133 (cc := cd_133) rfl (stops := [24]) (f := 60) ?_
  refine And.intro (fun z => ?_) (fun z => ?_)
  rotate_left
  · rw [a9, L20, L800, iZ_add, iZ_le (by constructor <;> omega) (by decide)] at z
    exact And.intro trivial (hB m0 (by omega) z0 F0)
  rw [a9, L20, L800, iZ_add, iZ_le (by constructor <;> omega) (by decide)] at z
  have z : td + 20 ≤ 800 := by omega
  refine And.intro trivial ?_
  have loop : ∀ (s j : Nat) (mz : Mem) (x7 : Option SV), j + s = 20 → (∀ i, i < j → gI mz 31 239 (td + i) = iZ (sg (byt (x5 a b c d e (i / 4)) (i % 4)))) → gI mz 23 231 9 = iZ ((td + j : Nat) : Int) → Fr (fun t n k => (t = 31 ∧ n = 239 ∧ td ≤ k ∧ k < td + 20) ∨ (t = 23 ∧ n = 231 ∧ k = 9)) m0 mz → smE true 133 24 [some (vR (some (23, 231))), some (vI a), some (vI b), some (vI c), some (vI d), some (vI e), some (vI (iZ j)), x7] [] mz K := by
    intro s
    induction s with
    | zero =>
      intro j mz x7 ej hj y9 Fz
      have ej : j = 20 := by omega
      subst ej
      refine wp1_ok (by decide) OK_133 (cc := cd_133) rfl (stops := [24]) (f := 40) ?_
      refine And.intro (fun _ => ?_) (fun u => absurd (by decide) u)
      refine And.intro trivial ?_
      rw [y9]
      refine hS mz z (fun k hk => ?_) y9 ((Fz.2 _ _ _ (by omega)).trans z0) ((F0.mono (fun t n k w => Or.inr ⟨w.1, w.2.1, Or.inl w.2.2⟩)).tr (Fz.mono (fun t n k w => by
        rcases w with w | w
        · exact Or.inl w
        · exact Or.inr ⟨w.1, w.2.1, Or.inr w.2.2⟩)))
      unfold tpF
      by_cases h0 : td ≤ k ∧ k < td + 20
      · rw [if_pos h0, ← hj (k - td) (by omega)]
        congr 1; omega
      · rw [if_neg h0, Fz.2 _ _ _ (by omega), F0.2 _ _ _ (by omega)]
        exact hc k hk
    | succ s ih =>
      intro j mz x7 ej hj y9 Fz
      have st : smE true 133 77 [some (vR (some (23, 231))), some (vI a), some (vI b), some (vI c), some (vI d), some (vI e), some (vI (iZ j)), x7] [vI (x5 a b c d e (j / 4))] mz K := by
        have e4 : iZ (j : Int) - iZ (j : Int) / 4 * 4 = iZ ((j % 4 : Nat) : Int) := by
          rw [L4, iZ_rem (by constructor <;> omega) (by decide) (by omega) (by decide)]; congr 1
        have e24 : (24 : Int32) - 8 * (iZ (j : Int) - iZ (j : Int) / 4 * 4) = iZ (24 - 8 * ((j % 4 : Nat) : Int)) := by
          rw [e4, L24, L8, iZ_mul, iZ_sub]
        refine wp_ok (by decide) OK_133 (cc := cd_133) rfl (stops := [24]) 60 _ _ _ _ ?_
        refine And.intro (by decide) ?_
        refine And.intro (by rw [y9]; exact (iZ_in (by constructor <;> omega)).mpr (by omega)) ?_
        refine And.intro trivial ?_
        have ec : (iZ ((td + j : Nat) : Int)).toNatClampNeg = td + j := by rw [iZ_clamp (by constructor <;> omega)]; omega
        have q9 : gI (sI mz 31 239 (td + j) (iZ (sg (byt (x5 a b c d e (j / 4)) (j % 4))))) 23 231 9 = iZ ((td + j : Nat) : Int) := by rw [gI_s, if_neg (by omega)]; exact y9
        rw [y9, ec, e24, mby _ _ (by omega), q9, L1, iZ_add, iZ_add]
        refine ih (j + 1) _ _ (by omega) (fun i hi => ?_) ?_ (Fz.tr ((Fr.st (Or.inl ⟨rfl, rfl, by omega, by omega⟩)).tr (Fr.st (Or.inr ⟨rfl, rfl, rfl⟩))))
        · rw [gI_s, if_neg (by omega), gI_s]
          by_cases e' : i = j
          · rw [if_pos ⟨by rw [e'], rfl, rfl⟩, e']
          · rw [if_neg (by omega)]; exact hj i (by omega)
        · rw [gI_s, if_pos ⟨rfl, rfl, rfl⟩]; congr 1
      refine wp1_ok (by decide) OK_133 (cc := cd_133) rfl (stops := [24, 77]) (f := 40) ?_
      refine And.intro (fun u => ?_) (fun _ => ?_)
      · rw [L20, iZ_le (by decide) (by constructor <;> omega)] at u; omega
      refine And.intro (fun u => ?_) (fun u => ?_)
      rotate_left
      · rw [L4, iZ_le (by decide) (by constructor <;> omega)] at u
        have hq : x5 a b c d e (j / 4) = a := by rw [show j / 4 = 0 by omega]; rfl
        rw [hq] at st
        exact And.intro trivial st
      rw [L4, iZ_le (by decide) (by constructor <;> omega)] at u
      refine And.intro (fun u => ?_) (fun u => ?_)
      rotate_left
      · rw [L8, iZ_le (by decide) (by constructor <;> omega)] at u
        have hq : x5 a b c d e (j / 4) = b := by rw [show j / 4 = 1 by omega]; rfl
        rw [hq] at st
        exact And.intro trivial st
      rw [L8, iZ_le (by decide) (by constructor <;> omega)] at u
      refine And.intro (fun u => ?_) (fun u => ?_)
      rotate_left
      · rw [L12, iZ_le (by decide) (by constructor <;> omega)] at u
        have hq : x5 a b c d e (j / 4) = c := by rw [show j / 4 = 2 by omega]; rfl
        rw [hq] at st
        exact And.intro trivial st
      rw [L12, iZ_le (by decide) (by constructor <;> omega)] at u
      refine And.intro (fun u => ?_) (fun u => ?_)
      rotate_left
      · rw [L16, iZ_le (by decide) (by constructor <;> omega)] at u
        have hq : x5 a b c d e (j / 4) = d := by rw [show j / 4 = 3 by omega]; rfl
        rw [hq] at st
        exact And.intro trivial st
      rw [L16, iZ_le (by decide) (by constructor <;> omega)] at u
      have hq : x5 a b c d e (j / 4) = e := by rw [show j / 4 = 4 by omega]; rfl
      rw [hq] at st
      exact And.intro trivial st
  exact loop 20 0 m0 _ (by omega) (fun i hi => by omega) a9 (Fr.rf _ _)
end FEED
