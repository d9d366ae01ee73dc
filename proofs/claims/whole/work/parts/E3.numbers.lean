/-! append of a number: the class -/
def preM (neg : Bool) : List Int := match neg with
  | true => [45]
  | false => []
def sgs (neg : Bool) (v : Nat) : List Int := preM neg ++ dg v
theorem preM_len (neg : Bool) : (preM neg).length ≤ 1 := by cases neg <;> decide
theorem sgs_ch (neg : Bool) (v : Nat) : chS (sgs neg v) := by
  refine chS.app ?_ (dg_ch v)
  cases neg
  · exact fun x hx => by cases hx
  · exact chS.one (by decide)
/-- l stands ahead of place p -/
def WT (m m' : Mem) (b p : Nat) (l : List Int) : Prop := (∀ k, k < l.length → gI m' 21 b (p - l.length + k) = iZ (l.getD k 0)) ∧ Fr (fun t n k => t = 21 ∧ n = b ∧ p - l.length ≤ k ∧ k < p) m m'
theorem WT.nil {m : Mem} {b p : Nat} : WT m m b p [] := ⟨fun k hk => absurd hk (Nat.not_lt_zero _), Fr.rf _ _⟩
theorem WT.snoc {m m' : Mem} {b p : Nat} {l : List Int} {c : Int} (h : WT (sI m 21 b p (iZ c)) m' b p l) (hl : l.length ≤ p) : WT m m' b (p + 1) (l ++ [c]) := by
  obtain ⟨h1, h2⟩ := h
  have e : (l ++ [c]).length = l.length + 1 := by simp
  refine ⟨fun k hk => ?_, ?_⟩
  · rw [e] at hk ⊢
    rw [show p + 1 - (l.length + 1) + k = p - l.length + k by omega]
    by_cases c2 : k < l.length
    · rw [gd_l c2]; exact h1 k c2
    · have : k = l.length := by omega
      subst this
      rw [show p - l.length + l.length = p by omega, gd_r (Nat.le_refl _), Nat.sub_self, h2.2 _ _ _ (by omega), gI_s, if_pos ⟨rfl, rfl, rfl⟩]
      rfl
  · have f1 : Fr (fun t n k => t = 21 ∧ n = b ∧ p + 1 - (l ++ [c]).length ≤ k ∧ k < p + 1) m (sI m 21 b p (iZ c)) := Fr.st ⟨rfl, rfl, by rw [e]; omega, by omega⟩
    exact f1.tr (h2.mono (fun t n k z => ⟨z.1, z.2.1, by rw [e]; omega, by omega⟩))
section NUM
variable {m m' : Mem} {K : Option SV → Mem → Prop} {n b : Nat} {s : List Int} {c : Int}
theorem c_strSize {v : Nat} {neg : Bool} {x : Int32} (hx : x = iZ (if neg then -(v : Int) else (v : Int))) (hv : v < 100000000) (hn : neg = true → 0 < v) (h : K (some (vI (iZ (sgs neg v).length))) m) : smC true 280 [vI x] m K := by
  subst hx
  have loop : ∀ s q : Nat, q + s = 9 → (q = 0 ∨ pwT q ≤ v) → smE true 280 16 [some (vI (iZ (-(v : Int)))), some (vI (iZ ((preM neg).length : Int))), some (vI (iZ (-(pwT (q + 1) : Int)))), some (vI (iZ ((q + 1 : Nat) : Int)))] [] m K := by
    intro s
    induction s with
    | zero =>
      intro q eq hq
      have : q = 9 := by omega
      subst this
      have e9 : pwT 9 = 1000000000 := rfl
      omega
    | succ s ih =>
      intro q eq hq
      have e1 : pwT (q + 1) = 10 * pwT q := rfl
      have hp := pwT_pos q
      have hb : pwT q ≤ 100000000 := by
        rcases hq with e | e
        · subst e; decide
        · omega
      refine wp1_ok (by decide) OK_280 (cc := cd_280) rfl (stops := [16]) (f := 40) ?_
      refine And.intro (fun z => ?_) (fun _ => ?_)
      · rw [L10, iZ_le (by decide) (by constructor <;> omega)] at z; omega
      refine And.intro (fun z => ?_) (fun z => ?_)
      · rw [iZ_le (by constructor <;> omega) (by constructor <;> omega)] at z
        refine And.intro trivial ?_
        have := ih (q + 1) (by omega) (Or.inr (by omega))
        rw [L10, iZ_mul, L1, iZ_add]
        rw [show (10 : Int) * -(pwT (q + 1) : Int) = -(pwT (q + 1 + 1) : Int) by show (10 : Int) * -(pwT (q + 1) : Int) = -((10 * pwT (q + 1) : Nat) : Int); omega]
        exact this
      · rw [iZ_le (by constructor <;> omega) (by constructor <;> omega)] at z
        refine And.intro trivial ?_
        have el : (sgs neg v).length = (preM neg).length + (q + 1) := by
          unfold sgs
          rw [List.length_append, dg_len q v (by omega) hq]
        rw [iZ_add]
        rw [el] at h
        rw [show (((q + 1 : Nat) : Int) + ((preM neg).length : Int)) = (((preM neg).length + (q + 1) : Nat) : Int) by omega]
        exact h
  refine smC_wp [some (vI _), none, none, none] cd_280 [16] 40 OK_280 (by decide) rfl rfl (Nat.le_of_ble_eq_true rfl) ?_
  have l0 := loop 9 0 rfl (Or.inl rfl)
  cases neg with
  | true =>
    have := hn rfl
    refine And.intro (fun _ => And.intro trivial l0) (fun z => ?_)
    have z : ¬ iZ (-(v : Int)) < 0 := z
    rw [L0, iZ_lt (by constructor <;> omega) (by decide)] at z
    omega
  | false =>
    refine And.intro (fun z => ?_) (fun _ => ?_)
    · have z : iZ (v : Int) < 0 := z
      rw [L0, iZ_lt (by constructor <;> omega) (by decide)] at z
      omega
    · refine And.intro trivial ?_
      have e : -iZ (v : Int) = iZ (-(v : Int)) := iZ_neg _
      show smE true 280 16 [some (vI (-iZ (v : Int))), _, _, _] [] m K
      rw [e]
      exact l0
theorem c_getChars {v p : Nat} {neg : Bool} {x y : Int32} (hx : x = iZ (if neg then -(v : Int) else (v : Int))) (hy : y = iZ p) (hv : v < 100000000) (hn : neg = true → 0 < v) (hl : (sgs neg v).length ≤ p) (hp : p ≤ 16) (hL : gL m 21 b = 16)
    (h : ∀ m', WT m m' b p (sgs neg v) → ∀ r : Int32, K (some (vI r)) m') : smC true 281 [vI x, vI y, vR (some (21, b))] m K := by
  subst hx; subst hy
  have dec : ∀ q : Nat, 1 ≤ q → iZ (q : Int) + -1 = iZ ((q - 1 : Nat) : Int) := fun q hq => by rw [LM1, iZ_add]; congr 1; omega
  have clm : ∀ q : Nat, q ≤ 16 → (iZ (q : Int)).toNatClampNeg = q := fun q hq => by rw [iZ_clamp (by constructor <;> omega)]; omega
  have inb : ∀ q : Nat, q < 16 → vp_in (iZ (q : Int)) 16 := fun q hq => (iZ_in (by constructor <;> omega)).mpr (by omega)
  have tail : ∀ (q : Nat) (m1 : Mem) (w x0 x1 : Int32) (x3 x4 : Option SV), (x3 = none ∧ x4 = none ∨ ∃ y3 y4, x3 = some (vI y3) ∧ x4 = some (vI y4)) → (preM neg).length ≤ q → q ≤ 16 → gL m1 21 b = 16 → (∀ m', WT m1 m' b q (preM neg) → ∀ r : Int32, K (some (vI r)) m') → smE true 281 104 [some (vI x0), some (vI x1), some (vR (some (21, b))), x3, x4, some (vI (iZ (q : Int))), some (vI (bI neg))] [] m1 K := by
    intro q m1 w x0 x1 x3 x4 hx hq hq16 hL1 hK
    cases neg with
    | false =>
      refine wp_ok (by decide) OK_281 (cc := cd_281) rfl (stops := []) 30 _ _ _ _ ?_
      refine And.intro (fun _ => ?_) (fun z => absurd rfl z)
      exact And.intro trivial (hK m1 WT.nil _)
    | true =>
      have hq1 : 1 ≤ q := hq
      rcases hx with ⟨rfl, rfl⟩ | ⟨y3, y4, rfl, rfl⟩
      all_goals
        refine wp_ok (by decide) OK_281 (cc := cd_281) rfl (stops := []) 30 _ _ _ _ ?_
        refine And.intro (fun z => absurd z (by decide)) (fun _ => ?_)
        refine And.intro ?_ ?_
        · show vp_in (iZ (q : Int) + -1) (gL m1 21 b)
          rw [dec q hq1, hL1]; exact inb _ (by omega)
        refine And.intro trivial ?_
        rw [dec q hq1, clm _ (by omega)]
        have e45 : ((45 : Int32).toInt8.toInt32) = iZ 45 := by decide
        rw [e45]
        refine hK _ ?_ _
        have := WT.snoc (m := m1) (b := b) (p := q - 1) (l := []) (c := 45) WT.nil (Nat.zero_le _)
        rw [show q - 1 + 1 = q by omega] at this
        exact this
  have main : ∀ (v : Nat), v < 100000000 → ∀ (q : Nat) (m1 : Mem) (x1 : Int32) (x3 x4 : Option SV), (x3 = none ∧ x4 = none ∨ ∃ y3 y4, x3 = some (vI y3) ∧ x4 = some (vI y4)) → (sgs neg v).length ≤ q → q ≤ 16 → gL m1 21 b = 16 → (∀ m', WT m1 m' b q (sgs neg v) → ∀ r : Int32, K (some (vI r)) m') → smE true 281 22 [some (vI (iZ (-(v : Int)))), some (vI x1), some (vR (some (21, b))), x3, x4, some (vI (iZ (q : Int))), some (vI (bI neg))] [] m1 K := by
    intro v
    induction v using Nat.strongRecOn with
    | ind v ih =>
      intro hv q m1 x1 x3 x4 hx hl hq hL1 hK
      have hd := dg_pos v
      have els : (sgs neg v).length = (preM neg).length + (dg v).length := by unfold sgs; rw [List.length_append]
      by_cases h100 : 100 ≤ v
      · have e2 := dg_100 h100
        have ed : (dg v).length = (dg (v / 100)).length + 2 := by rw [e2, List.length_append]; rfl
        have hdp := dg_pos (v / 100)
        have er : iZ (-((v / 100 : Nat) : Int)) * 100 - iZ (-(v : Int)) = iZ ((v % 100 : Nat) : Int) := by
          rw [L100, iZ_mul, iZ_sub]; congr 1; omega
        have cr : (iZ ((v % 100 : Nat) : Int)).toNatClampNeg = v % 100 := by rw [iZ_clamp (by constructor <;> omega)]; omega
        have ir : vp_in (iZ ((v % 100 : Nat) : Int)) 100 := (iZ_in (by constructor <;> omega)).mpr (by omega)
        have dt := dgt (v % 100) (by omega)
        have go : ∀ x3' x4' : Int32, smE true 281 22 [some (vI (iZ (-((v / 100 : Nat) : Int)))), some (vI x1), some (vR (some (21, b))), some (vI x3'), some (vI x4'), some (vI (iZ ((q - 1 - 1 : Nat) : Int))), some (vI (bI neg))] [] (sI (sI m1 21 b (q - 1) (iZ (48 + ((v % 100 % 10 : Nat) : Int)))) 21 b (q - 1 - 1) (iZ (48 + ((v % 100 / 10 : Nat) : Int)))) K := by
          intro x3' x4'
          have els2 : (sgs neg (v / 100)).length = (preM neg).length + (dg (v / 100)).length := by unfold sgs; rw [List.length_append]
          refine ih (v / 100) (by omega) (by omega) (q - 1 - 1) _ x1 _ _ (Or.inr ⟨_, _, rfl, rfl⟩) (by omega) (by omega) hL1 (fun m' hW r => hK m' ?_ r)
          have w1 := hW.snoc (by omega)
          rw [show q - 1 - 1 + 1 = q - 1 by omega] at w1
          have w2 := w1.snoc (by rw [List.length_append]; show (sgs neg (v / 100)).length + 1 ≤ q - 1; omega)
          rw [show q - 1 + 1 = q by omega] at w2
          have es : sgs neg v = sgs neg (v / 100) ++ [48 + ((v % 100 / 10 : Nat) : Int)] ++ [48 + ((v % 100 % 10 : Nat) : Int)] := by
            unfold sgs
            rw [e2]
            simp
          rw [es]
          exact w2
        rcases hx with ⟨rfl, rfl⟩ | ⟨y3, y4, rfl, rfl⟩
        all_goals
          refine wp1_ok (by decide) OK_281 (cc := cd_281) rfl (stops := [22]) (f := 60) ?_
          refine And.intro (fun z => ?_) (fun _ => ?_)
          · rw [LM100, iZ_lt (by decide) (by constructor <;> omega)] at z; omega
          refine And.intro (by decide) ?_
          rw [iZ_ndiv hv]
          refine And.intro ?_ ?_
          · rw [er]; exact ir
          refine And.intro ?_ ?_
          · show vp_in (iZ (q : Int) + -1) (gL m1 21 b)
            rw [dec q (by omega), hL1]; exact inb _ (by omega)
          refine And.intro ?_ ?_
          · rw [er]; exact ir
          refine And.intro ?_ ?_
          · show vp_in (iZ (q : Int) + -1 + -1) (gL m1 21 b)
            rw [dec q (by omega), dec (q - 1) (by omega), hL1]; exact inb _ (by omega)
          refine And.intro trivial ?_
          rw [er, cr, dt.1, dt.2, b8 (by omega), b8 (by omega), dec q (by omega), clm _ (by omega), dec (q - 1) (by omega), clm _ (by omega)]
          exact go _ _
      · have cv : (iZ (v : Int)).toNatClampNeg = v := by rw [iZ_clamp (by constructor <;> omega)]; omega
        have iv : vp_in (iZ (v : Int)) 100 := (iZ_in (by constructor <;> omega)).mpr (by omega)
        have en : -iZ (-(v : Int)) = iZ (v : Int) := by rw [iZ_neg, Int.neg_neg]
        have dt := dgt v (by omega)
        have d2 : ¬ v < 10 → 2 ≤ (dg v).length := fun c => by
          rw [dg_ge c, List.length_append]
          have := dg_pos (v / 10)
          show 2 ≤ (dg (v / 10)).length + 1
          omega
        have one : ∀ x3 x4 : Option SV, (x3 = none ∧ x4 = none ∨ ∃ y3 y4, x3 = some (vI y3) ∧ x4 = some (vI y4)) → v < 10 → smE true 281 104 [some (vI (iZ (-(v : Int)))), some (vI x1), some (vR (some (21, b))), x3, x4, some (vI (iZ ((q - 1 : Nat) : Int))), some (vI (bI neg))] [] (sI m1 21 b (q - 1) (iZ (48 + ((v % 10 : Nat) : Int)))) K := by
          intro x3 x4 hx h10
          rw [dg_lt h10] at els
          have els : (sgs neg v).length = (preM neg).length + 1 := els
          refine tail (q - 1) _ 0 _ _ _ _ hx (by omega) (by omega) hL1 (fun m' hW r => hK m' ?_ r)
          have w1 := hW.snoc (by omega)
          rw [show q - 1 + 1 = q by omega, show v % 10 = v by omega] at w1
          unfold sgs
          rw [dg_lt h10]
          exact w1
        have two : ∀ x3 x4 : Option SV, (x3 = none ∧ x4 = none ∨ ∃ y3 y4, x3 = some (vI y3) ∧ x4 = some (vI y4)) → ¬ v < 10 → smE true 281 104 [some (vI (iZ (-(v : Int)))), some (vI x1), some (vR (some (21, b))), x3, x4, some (vI (iZ ((q - 1 - 1 : Nat) : Int))), some (vI (bI neg))] [] (sI (sI m1 21 b (q - 1) (iZ (48 + ((v % 10 : Nat) : Int)))) 21 b (q - 1 - 1) (iZ (48 + ((v / 10 : Nat) : Int)))) K := by
          intro x3 x4 hx h10
          have e2 : dg v = [48 + ((v / 10 : Nat) : Int)] ++ [48 + ((v % 10 : Nat) : Int)] := by rw [dg_ge h10, dg_lt (v := v / 10) (by omega)]
          rw [e2] at els
          have els : (sgs neg v).length = (preM neg).length + 2 := els
          refine tail (q - 1 - 1) _ 0 _ _ _ _ hx (by omega) (by omega) hL1 (fun m' hW r => hK m' ?_ r)
          have w1 := hW.snoc (by omega)
          rw [show q - 1 - 1 + 1 = q - 1 by omega] at w1
          have w2 := w1.snoc (by rw [List.length_append]; show (preM neg).length + 1 ≤ q - 1; omega)
          rw [show q - 1 + 1 = q by omega] at w2
          unfold sgs
          rw [e2, ← List.append_assoc]
          exact w2
        rcases hx with ⟨rfl, rfl⟩ | ⟨y3, y4, rfl, rfl⟩
        all_goals
          refine wp1_ok (by decide) OK_281 (cc := cd_281) rfl (stops := [104]) (f := 60) ?_
          refine And.intro (fun _ => ?_) (fun z => ?_)
          rotate_left
          · rw [LM100, iZ_lt (by decide) (by constructor <;> omega)] at z; omega
          refine And.intro ?_ ?_
          · rw [en]; exact iv
          refine And.intro ?_ ?_
          · show vp_in (iZ (q : Int) + -1) (gL m1 21 b)
            rw [dec q (by omega), hL1]; exact inb _ (by omega)
          have hm9 : (-9 : Int32) = iZ (-9) := rfl
          refine And.intro (fun z => ?_) (fun z => ?_)
          · rw [hm9, iZ_le (by decide) (by constructor <;> omega)] at z
            refine And.intro trivial ?_
            rw [en, cv, dt.1, b8 (by omega), dec q (by omega), clm _ (by omega)]
            first
              | exact one _ _ (Or.inl ⟨rfl, rfl⟩) (by omega)
              | exact one _ _ (Or.inr ⟨_, _, rfl, rfl⟩) (by omega)
          · rw [hm9, iZ_le (by decide) (by constructor <;> omega)] at z
            have d3 := d2 (by omega)
            refine And.intro ?_ ?_
            · rw [en]; exact iv
            refine And.intro ?_ ?_
            · show vp_in (iZ (q : Int) + -1 + -1) (gL m1 21 b)
              rw [dec q (by omega), dec (q - 1) (by omega), hL1]; exact inb _ (by omega)
            refine And.intro trivial ?_
            rw [en, cv, dt.1, dt.2, b8 (by omega), b8 (by omega), dec q (by omega), clm _ (by omega), dec (q - 1) (by omega), clm _ (by omega)]
            first
              | exact two _ _ (Or.inl ⟨rfl, rfl⟩) (by omega)
              | exact two _ _ (Or.inr ⟨_, _, rfl, rfl⟩) (by omega)
  refine smC_wp [some (vI _), some (vI (iZ p)), some (vR (some (21, b))), none, none, none, none] cd_281 [22] 40 OK_281 (by decide) rfl rfl (Nat.le_of_ble_eq_true rfl) ?_
  have l0 := main v hv p m (iZ p) none none (Or.inl ⟨rfl, rfl⟩) hl hp hL h
  cases neg with
  | true =>
    have := hn rfl
    refine And.intro (fun z => ?_) (fun _ => ?_)
    · have z : 0 ≤ iZ (-(v : Int)) := z
      rw [L0, iZ_le (by decide) (by constructor <;> omega)] at z
      omega
    · refine And.intro (fun _ => ?_) (fun z => absurd z (by decide))
      exact And.intro trivial l0
  | false =>
    refine And.intro (fun _ => ?_) (fun z => ?_)
    rotate_left
    · have z : ¬ 0 ≤ iZ (v : Int) := z
      rw [L0, iZ_le (by decide) (by constructor <;> omega)] at z
      omega
    refine And.intro (fun z => absurd rfl z) (fun _ => ?_)
    refine And.intro trivial ?_
    have e : -iZ (v : Int) = iZ (-(v : Int)) := iZ_neg _
    show smE true 281 22 [some (vI (-iZ (v : Int))), _, _, _, _, _, _] [] m K
    rw [e]
    exact l0
theorem c_appI {v : Nat} {neg : Bool} {x : Int32} (hx : x = iZ (if neg then -(v : Int) else (v : Int))) (hv : v < 100000000) (hn : neg = true → 0 < v) (hs : s.length + (sgs neg v).length ≤ 16) (hR : SBR m n b s) (hk : ∀ m', SBR m' n b (s ++ sgs neg v) → Fr AS m m' → K (some (vR (some (22, n)))) m') : smC true 268 [vR (some (22, n)), vI x] m K := by
  have h276 : ∀ {Q : Option SV → Mem → Prop}, (∀ m', SBR m' n b (s ++ sgs neg v) → Fr AS m m' → Q (some (vR (some (22, n)))) m') → smC true 276 [vR (some (22, n)), vI x] m Q := by
    intro Q hQ
    have el : gI m 22 n 3 + iZ ((sgs neg v).length : Int) = iZ ((s.length + (sgs neg v).length : Nat) : Int) := by rw [hR.1.2.2.1, iZ_add]; congr 1
    refine smC_wpB [some (vR (some (22, n))), some (vI x), none, none] cd_276 [14, 18] 60 OB_276 (by decide) rfl rfl (Nat.le_of_ble_eq_true rfl) ?_
    refine And.intro trivial (c_strSize hx hv hn ?_)
    refine And.intro trivial ?_
    rw [el]
    refine E_vup (as0 := [vI (iZ ((s.length + (sgs neg v).length : Nat) : Int))]) (s0 := []) (by decide) (c_ens rfl (by omega) hR ?_) rfl (by decide) rfl d276_14 w1016 y273 (by decide) (by decide) (by decide) se273
    refine wpB_ok (by decide) OB_276 (cc := cd_276) rfl 40 _ _ _ _ ?_
    refine And.intro trivial ?_
    refine E_vup (as0 := []) (s0 := []) (by decide) (c_lat hR ?_) rfl (by decide) rfl d276_18 w1041 y275 (by decide) (by decide) (by decide) se275
    refine wpB_ok (by decide) OB_276 (cc := cd_276) rfl 40 _ _ _ _ ?_
    refine And.intro (fun z => absurd z (by decide)) (fun _ => ?_)
    refine Exists.intro _ (And.intro hR.1.1 ?_)
    refine And.intro trivial (c_getChars (p := s.length + (sgs neg v).length) hx rfl hv hn (by omega) hs hR.1.2.2.2 (fun m1 hW r => ?_))
    refine And.intro trivial ?_
    obtain ⟨⟨h1, h2, h3, h4⟩, h5⟩ := hR
    obtain ⟨w1, w2⟩ := hW
    refine hQ _ ⟨⟨(Fr_gP w2 _ _ _).trans h1, ?_, ?_, (Fr_gL w2 _ _).trans h4⟩, fun k hk => ?_⟩ ?_
    · rw [gI_s, if_neg (by omega), w2.2 _ _ _ (by omega)]; exact h2
    · rw [gI_s, if_pos ⟨rfl, rfl, rfl⟩, List.length_append]
    · rw [gI_s, if_neg (by omega)]
      rw [List.length_append] at hk
      by_cases e : k < s.length
      · rw [w2.2 _ _ _ (by omega), gd_l e]; exact h5 k e
      · rw [gd_r (by omega), ← w1 (k - s.length) (by omega)]
        congr 1; omega
    · exact (w2.mono (fun t n k z => Or.inl z.1)).tr (Fr.st (Or.inr rfl))
  refine smC_wpB [some (vR (some (22, n))), some (vI x)] cd_268 [2] 40 OB_268 (by decide) rfl rfl (Nat.le_of_ble_eq_true rfl) ?_
  refine And.intro trivial ?_
  refine E_sup (as0 := [vI x]) (s0 := []) (by decide +kernel) (by decide +kernel) (by decide +kernel) (h276 (fun m' a1 a2 => ?_)) rfl (by decide) rfl d268_2 w1081 y276 (by decide) (by decide) (by decide)
  refine wpB_ok (by decide) OB_268 (cc := cd_268) rfl 40 _ _ _ _ ?_
  exact And.intro trivial (hk m' a1 a2)
end NUM
