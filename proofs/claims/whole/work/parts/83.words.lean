/-! STRINGS of the class; WORDS -/
def wds : List (List Int) := [[107, 101, 121], [109, 101, 116, 101, 114], [115, 112, 101, 101, 100], [114, 101, 115, 116], [110, 111, 116, 101], [116, 105, 101], [103, 114], [97, 112], [115, 108], [116, 114], [109, 111], [112, 114], [116, 117], [100, 116], [105, 116], [108, 109], [100, 99], [117, 112], [100, 111, 119, 110], [110, 98], [97, 110]]
def wW (k : Nat) : List Int := wds.getD k []
def txt (tp : Nat → Int) (p : Nat) : Nat → List Int
  | 0 => []
  | f + 1 => tp p :: txt tp (p + 1) f
def isW (tp : Nat → Int) (k : Nat) (t : TK) : Bool := decide (t.1 = 1) && decide (txt tp t.2.1 (t.2.2.2 - t.2.1) = wW k)
theorem isW_iff {tp : Nat → Int} {k : Nat} {t : TK} : isW tp k t = true ↔ t.1 = 1 ∧ txt tp t.2.1 (t.2.2.2 - t.2.1) = wW k := by unfold isW; simp
theorem wW_inj : ∀ k, k < 21 → ∀ l, l < 21 → wW k = wW l → k = l := by decide
theorem isW_one {tp : Nat → Int} {k l : Nat} {t : TK} (hk : k < 21) (hl : l < 21) (h1 : isW tp k t = true) (h2 : isW tp l t = true) : k = l :=
  wW_inj k hk l hl ((isW_iff.mp h1).2.symm.trans (isW_iff.mp h2).2)
theorem txt_len (tp : Nat → Int) : ∀ (f p : Nat), (txt tp p f).length = f
  | 0, _ => rfl
  | f + 1, p => by rw [txt, List.length_cons, txt_len tp f]
theorem txt_get (tp : Nat → Int) : ∀ (f p j : Nat), j < f → (txt tp p f).getD j 0 = tp (p + j)
  | 0, _, _, h => by omega
  | f + 1, p, 0, _ => rfl
  | f + 1, p, j + 1, h => by
    show (txt tp (p + 1) f).getD j 0 = _
    rw [txt_get tp f (p + 1) j (by omega)]; congr 1; omega
theorem list_ext0 : ∀ {a b : List Int}, a.length = b.length → (∀ j, j < b.length → a.getD j 0 = b.getD j 0) → a = b
  | [], [], _, _ => rfl
  | [], _ :: _, h, _ => by simp at h
  | _ :: _, [], h, _ => by simp at h
  | x :: a, y :: b, h, hg => by
    have h0 : x = y := hg 0 (by simp)
    have ht : a = b := list_ext0 (by simpa using h) (fun j hj => by
      have := hg (j + 1) (by simp; omega)
      simpa using this)
    rw [h0, ht]
/-- the class's strings -/
def sB (c j : Nat) : Int := ((stS c).getD j 0).toInt
theorem sB_ch : ∀ c, c < 16 → ∀ j, j < (stS c).length → ((((stS c).getD j 0 &&& 255).toUInt32 % 65536).toInt32) = iZ (sB c j) ∧ 0 ≤ sB c j ∧ sB c j ≤ 122 ∧ (stS c).getD j 0 = iZ (sB c j) := by decide +kernel
theorem sL_rng : ∀ c, c < 16 → (stS c).length ≤ 16 ∧ nI (stS c).length >>> (0 &&& 31) = iZ (stS c).length := by decide +kernel
/-- which word a string is -/
def wk (c : Nat) : Nat := [4, 3, 5, 0, 1, 2, 0, 8, 6, 7, 17, 18, 0, 19, 20].getD c 0
theorem wk_str : ∀ c, c < 15 → c ≠ 6 → c ≠ 12 → (stS c).map (fun x => x.toInt) = wW (wk c) ∧ wk c < 21 := by decide +kernel
theorem ch_okN : ∀ b : Nat, b < 256 → ((iZ b).toUInt32 % 65536).toInt32 = iZ b := by decide +kernel
theorem ch_ok {b : Int} (h0 : 0 ≤ b) (h : b < 256) : ((iZ b).toUInt32 % 65536).toInt32 = iZ b := by
  have := ch_okN b.toNat (by omega)
  rwa [Int.toNat_of_nonneg h0] at this
section STR
variable {m : Mem} {K : Option SV → Mem → Prop} {c : Nat}
theorem c_coder (h : K (some (vI 0)) m) : smC true 254 [vR (some (61, c))] m K := by
  refine smC_wp [some (vR (some (61, c)))] cd_254 [] 20 OK_254 (by decide) rfl rfl (Nat.le_of_ble_eq_true rfl) ?_
  refine And.intro (fun z => absurd z (by decide)) (fun _ => ?_)
  exact And.intro (by decide) h
theorem c_isLatin (h : K (some (vI 1)) m) : smC true 256 [vR (some (61, c))] m K := by
  refine smC_wp [some (vR (some (61, c)))] cd_256 [] 20 OK_256 (by decide) rfl rfl (Nat.le_of_ble_eq_true rfl) ?_
  refine And.intro (fun z => absurd z (by decide)) (fun _ => ?_)
  refine And.intro (fun z => absurd rfl z) (fun _ => ?_)
  exact And.intro (Or.inr rfl) h
theorem c_strLen (hc : c < 16) (h : K (some (vI (iZ (stS c).length))) m) : smC true 253 [vR (some (61, c))] m K := by
  refine smC_wp [some (vR (some (61, c)))] cd_253 [] 20 OK_253 (by decide) rfl rfl (Nat.le_of_ble_eq_true rfl) ?_
  refine And.intro trivial (c_coder ?_)
  refine And.intro trivial ?_
  have e := (sL_rng c hc).2
  change K (some (vI (nI (stS c).length >>> (0 &&& 31)))) m
  rw [e]; exact h
theorem c_checkIndex {j l : Int} {x y : Int32} (hx : x = iZ j) (hy : y = iZ l) (rj : R32 j) (rl : R32 l) (h0 : 0 ≤ j ∧ j < l) (h : K none m) : smC true 257 [vI x, vI y] m K := by
  subst hx; subst hy
  refine smC_wp [some (vI (iZ j)), some (vI (iZ l))] cd_257 [] 20 OK_257 (by decide) rfl rfl (Nat.le_of_ble_eq_true rfl) ?_
  have h260 : ∀ {Q : Option SV → Mem → Prop} {r : Option Rf}, Q (some (vI (iZ j))) m → smC true 260 [vI (iZ j), vI (iZ l), vR r] m Q := by
    intro Q r hQ
    refine smC_wp [some (vI (iZ j)), some (vI (iZ l)), some (vR r)] cd_260 [] 20 OK_260 (by decide) rfl rfl (Nat.le_of_ble_eq_true rfl) ?_
    refine And.intro (fun z => ?_) (fun _ => ?_)
    · rw [L0, iZ_lt rj (by decide)] at z; omega
    refine And.intro (fun _ => ?_) (fun z => ?_)
    · exact And.intro trivial hQ
    · rw [iZ_lt rj rl] at z; omega
  refine And.intro trivial (h260 ?_)
  exact And.intro trivial h
theorem c_charAt {j : Nat} {x : Int32} (hx : x = iZ j) (hc : c < 16) (hj : j < (stS c).length) (h : K (some (vI (iZ (sB c j)))) m) : smC true 255 [vR (some (61, c)), vI x] m K := by
  subst hx
  have hl := (sL_rng c hc).1
  have hb := sB_ch c hc j hj
  have h261 : ∀ {Q : Option SV → Mem → Prop}, Q (some (vI (iZ (sB c j)))) m → smC true 261 [vR (some (62, c)), vI (iZ j)] m Q := by
    intro Q hQ
    refine smC_wp [some (vR (some (62, c))), some (vI (iZ j))] cd_261 [] 20 OK_261 (by decide) rfl rfl (Nat.le_of_ble_eq_true rfl) ?_
    refine And.intro trivial (c_checkIndex (j := (j : Int)) (l := ((stS c).length : Int)) rfl ?_ (by constructor <;> omega) (by constructor <;> omega) (by omega) ?_)
    · show nI (stS c).length = _; rw [iZ_nI]
    refine And.intro ((iZ_in (by constructor <;> omega)).mpr (by omega)) ?_
    rw [iZ_clamp (by constructor <;> omega), show ((j : Nat) : Int).toNat = j by omega]
    have e : (((stT 62 c j &&& 255).toUInt32 % 65536).toInt32) = iZ (sB c j) := hb.1
    refine And.intro ?_ ?_
    · rw [e]; exact ch_ok hb.2.1 (by omega)
    · rw [e]; exact hQ
  refine smC_wp [some (vR (some (61, c))), some (vI (iZ j))] cd_255 [] 20 OK_255 (by decide) rfl rfl (Nat.le_of_ble_eq_true rfl) ?_
  refine And.intro trivial (c_isLatin ?_)
  refine And.intro (fun z => absurd z (by decide)) (fun _ => ?_)
  refine And.intro trivial (h261 ?_)
  exact And.intro (ch_ok hb.2.1 (by omega)) h
theorem c_canEncode {v : Int} {x : Int32} (hx : x = iZ v) (hv : 0 ≤ v ∧ v ≤ 255) (h : K (some (vI 1)) m) : smC true 263 [vI x] m K := by
  subst hx
  refine smC_wp [some (vI (iZ v))] cd_263 [] 20 OK_263 (by decide) rfl rfl (Nat.le_of_ble_eq_true rfl) ?_
  refine And.intro (fun z => ?_) (fun _ => ?_)
  · rw [L0, iZ_lt (by constructor <;> omega) (by decide)] at z; omega
  refine And.intro (fun z => ?_) (fun _ => ?_)
  · rw [L255, iZ_lt (by decide) (by constructor <;> omega)] at z; omega
  exact And.intro (Or.inr rfl) h
/-- the letter of a byte -/
def ltB (b : Int) : Int := if 97 ≤ b ∧ b ≤ 103 then (b - 97 + 5) % 7 else -1
theorem ltB_s : ∀ b : Nat, b < 128 → ∀ j : Nat, j < 7 → ((sB 6 j = b ↔ ltB b = j) ∧ 0 ≤ sB 6 j ∧ sB 6 j < 128) := by decide +kernel
theorem ltB_7 : ∀ b : Nat, b < 128 → (∀ j : Nat, j < 7 → ltB b ≠ j) → ltB b = -1 := by decide +kernel
theorem by_ok : ∀ b : Nat, b < 128 → (iZ b).toInt8.toInt32 = iZ b := by decide +kernel
theorem c_indexOf {b : Int} {x : Int32} (hx : x = iZ b) (hb : 0 ≤ b ∧ b < 128) (h : K (some (vI (iZ (ltB b)))) m) : smC true 258 [vR (some (61, 6)), vI x] m K := by
  subst hx
  have eb : ((b.toNat : Nat) : Int) = b := Int.toNat_of_nonneg hb.1
  have e8 := by_ok b.toNat (by omega)
  have f1 := ltB_s b.toNat (by omega)
  have f2 := ltB_7 b.toNat (by omega)
  rw [eb] at e8 f1 f2
  have hl6 : (stS 6).length = 7 := by decide
  have h264 : ∀ {Q : Option SV → Mem → Prop}, Q (some (vI (iZ (ltB b)))) m → smC true 264 [vR (some (62, 6)), vI (iZ b), vI (iZ 0), vI (iZ 7)] m Q := by
    intro Q hQ
    have loop : ∀ (r j : Nat), j + r = 7 → (∀ q : Nat, q < j → ltB b ≠ q) → smE true 264 7 [some (vR (some (62, 6))), some (vI (iZ b)), some (vI (iZ 0)), some (vI (iZ 7)), some (vI (iZ b)), some (vI (iZ j))] [] m Q := by
      intro r
      induction r with
      | zero =>
        intro j ej hn
        have ej : j = 7 := by omega
        subst ej
        refine wp1_ok (by decide) OK_264 (cc := cd_264) rfl (stops := [7]) (f := 30) ?_
        refine And.intro (fun _ => ?_) (fun z => absurd (by decide) z)
        rw [f2 hn] at hQ
        exact And.intro trivial hQ
      | succ r ih =>
        intro j ej hn
        have fj := f1 j (by omega)
        have hs := sB_ch 6 (by decide) j (by omega)
        refine wp1_ok (by decide) OK_264 (cc := cd_264) rfl (stops := [7]) (f := 30) ?_
        refine And.intro (fun z => ?_) (fun _ => ?_)
        · rw [iZ_le (by decide) (by constructor <;> omega)] at z; omega
        refine And.intro ((iZ_in (by constructor <;> omega)).mpr (by rw [hl6]; omega)) ?_
        have ec : stT 62 6 (iZ (j : Int)).toNatClampNeg = iZ (sB 6 j) := by
          rw [iZ_clamp (by constructor <;> omega), show ((j : Nat) : Int).toNat = j by omega]; exact hs.2.2.2
        rw [ec]
        refine And.intro (fun z => ?_) (fun z => ?_)
        · rw [iZ_eq (by constructor <;> omega) (by constructor <;> omega)] at z
          refine And.intro trivial ?_
          rw [L1, iZ_add]
          refine ih (j + 1) (by omega) (fun q hq => ?_)
          by_cases e : q = j
          · subst e; exact fun w => z (fj.1.mpr w)
          · exact hn q (by omega)
        · rw [iZ_eq (by constructor <;> omega) (by constructor <;> omega)] at z
          have := fj.1.mp z
          rw [this] at hQ
          exact And.intro trivial hQ
    refine smC_wp [some (vR (some (62, 6))), some (vI (iZ b)), some (vI (iZ 0)), some (vI (iZ 7)), none, none] cd_264 [7] 20 OK_264 (by decide) rfl rfl (Nat.le_of_ble_eq_true rfl) ?_
    refine And.intro trivial ?_
    rw [e8]
    exact loop 7 0 rfl (fun q hq => by omega)
  have h262 : ∀ {Q : Option SV → Mem → Prop}, Q (some (vI (iZ (ltB b)))) m → smC true 262 [vR (some (62, 6)), vI (iZ b), vI 0, vI (iZ (stS 6).length)] m Q := by
    intro Q hQ
    refine smC_wp [some (vR (some (62, 6))), some (vI (iZ b)), some (vI 0), some (vI (iZ (stS 6).length))] cd_262 [] 30 OK_262 (by decide) rfl rfl (Nat.le_of_ble_eq_true rfl) ?_
    refine And.intro trivial (c_canEncode rfl (by omega) ?_)
    refine And.intro (fun _ => ?_) (fun z => absurd z (by decide))
    refine And.intro trivial (c_max ?_)
    refine And.intro trivial (c_min ?_)
    refine And.intro (fun _ => ?_) (fun z => absurd (by decide) z)
    exact And.intro trivial (h264 (And.intro trivial hQ))
  have h259 : ∀ {Q : Option SV → Mem → Prop}, Q (some (vI (iZ (ltB b)))) m → smC true 259 [vR (some (61, 6)), vI (iZ b), vI 0] m Q := by
    intro Q hQ
    refine smC_wp [some (vR (some (61, 6))), some (vI (iZ b)), some (vI 0)] cd_259 [] 30 OK_259 (by decide) rfl rfl (Nat.le_of_ble_eq_true rfl) ?_
    refine And.intro trivial (c_isLatin ?_)
    refine And.intro (fun z => absurd z (by decide)) (fun _ => ?_)
    refine And.intro trivial (c_strLen (by decide) ?_)
    exact And.intro trivial (h262 (And.intro trivial hQ))
  refine smC_wp [some (vR (some (61, 6))), some (vI (iZ b))] cd_258 [] 20 OK_258 (by decide) rfl rfl (Nat.le_of_ble_eq_true rfl) ?_
  exact And.intro trivial (h259 (And.intro trivial h))
end STR
