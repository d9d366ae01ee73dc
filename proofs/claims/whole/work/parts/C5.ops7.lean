/-! sounds, when, inKey: the Model; at: both -/
theorem barN_prop {D : Dt} {t : Int} (h0 : D.2.2.2.1 0 ≤ t) : ∀ n, D.2.2.2.1 (barN D t n) ≤ t ∧ barN D t n ≤ n ∧ ∀ l, barN D t n < l → l ≤ n → ¬ D.2.2.2.1 l ≤ t
  | 0 => ⟨h0, Nat.le_refl _, fun l u v => by unfold barN at u; omega⟩
  | n + 1 => by
    unfold barN
    by_cases e : D.2.2.2.1 (n + 1) ≤ t
    · rw [if_pos e]; exact ⟨e, Nat.le_refl _, fun l u v => by omega⟩
    · rw [if_neg e]
      have h := barN_prop h0 n
      refine ⟨h.1, by omega, fun l u v => ?_⟩
      by_cases e2 : l = n + 1
      · rw [e2]; exact e
      · exact h.2.2 l u (by omega)
section OPS7
variable {m m' : Mem} {K : Option SV → Mem → Prop} {tp : Nat → Int} {td : Nat} {fl : Int × Int} {tm : Nat → Int} {D : Dt} {a sa sb j : Nat} {st : Bool} {f f' : NF} {i : Int}
theorem M_isTone {k : Int} {x : Int32} {n : Nat} (hx : x = iZ k) (rk : R32 k) (h : gI m 23 231 43 = iZ n) (hn : n ≤ 3600) (k1 : 0 ≤ k ∧ k < n → K (some (vI 1)) m) (k0 : ¬ (0 ≤ k ∧ k < n) → K (some (vI 0)) m) : smC true 220 [vR (some (23, 231)), vI x] m K := by
  subst hx
  refine smC_wp [some (vR (some (23, 231))), some (vI (iZ k))] cd_220 [] 30 OK_220 (by decide) rfl rfl (Nat.le_of_ble_eq_true rfl) ?_
  have e : (gI m 23 231 43 - 1).toInt64 = iL ((n : Int) - 1) := by rw [h, L1, iZ_sub]; exact iZ_iL (by constructor <;> omega)
  refine And.intro trivial (M_isIn (v := k) (lo := 0) (hi := (n : Int) - 1) (iZ_iL rk) rfl e (by obtain ⟨u, v⟩ := rk; constructor <;> omega) (by decide) (by constructor <;> omega) (fun z => ?_) (fun z => ?_))
  · exact And.intro (Or.inr rfl) (k1 (by omega))
  · exact And.intro (Or.inl rfl) (k0 (by omega))
theorem MSR.len {pc : Int} {n : Nat} (h : MSR m tm pc D n) : gI m 23 231 43 = iZ (wr tm pc D n).1.length := h.1.1.2.1
theorem SI.len {pc : Int} (hS : SI tp td tm D) (hp : 0 ≤ pc ∧ pc ≤ 400) : (wr tm pc D D.1).1.length ≤ 3504 := by
  have := wr_len hS.2.2.1 hp hS.dok D.1 (Nat.le_refl _)
  have := hS.dok.1
  omega
theorem M_alterOf {k : Nat} {x : Int32} {t : Tn} (hx : x = iZ k) (hk : k < 3600) (hB : MB m) (hr : RowM m k t) (hs : -2 ≤ t.2.2.1 ∧ t.2.2.1 < 68) (h : K (some (vI (iZ (t.2.1 - natN t.2.2.1)))) m) : smC true 221 [vR (some (23, 231)), vI x] m K := by
  subst hx
  have ec : (iZ (k : Int)).toNatClampNeg = k := by rw [iZ_clamp (by constructor <;> omega)]; omega
  have hin : vp_in (iZ (k : Int)) 3600 := (iZ_in (by constructor <;> omega)).mpr (by omega)
  obtain ⟨r1, r2, r3, r4, r5, r6, r7⟩ := hr
  refine smC_wp [some (vR (some (23, 231))), some (vI (iZ k))] cd_221 [] 40 OK_221 (by decide) rfl rfl (Nat.le_of_ble_eq_true rfl) ?_
  refine And.intro hin ?_
  refine And.intro hin ?_
  refine And.intro hin ?_
  refine And.intro trivial (M_plainOf (l := t.2.2.1 % 7) (o := t.2.2.1 / 7) (by rw [ec]; exact r3) (by rw [ec]; exact r4) hB (by omega) ?_)
  refine And.intro trivial ?_
  rw [ec, r2, iZ_sub]
  exact h
theorem M_barAt {t : Int} {x : Int32} (hx : x = iZ (3 * t)) (rt : 0 ≤ t ∧ t ≤ 1000000) (hS : SI tp td tm D) (hM : MD m D) (hb : 0 < D.2.2.1) (hk : K (some (vI (iZ (barD D t)))) m) : smC true 222 [vR (some (23, 231)), vI x] m K := by
  subst hx
  obtain ⟨b1, b2, b3, b4⟩ := brk hS
  have en := hS.en
  have h0 : D.2.2.2.1 0 ≤ t := by rw [b3 hb]; exact rt.1
  have loop : ∀ k, k < D.2.2.1 → barN D t k = barN D t (D.2.2.1 - 1) → smE true 222 9 [some (vR (some (23, 231))), some (vI (iZ (3 * t))), some (vI (iZ (k : Nat)))] [] m K := by
    intro k
    induction k with
    | zero =>
      intro hk0 he
      have eb := hM.2.2 0 hk0
      have ex : (1444 : Int32) + iZ ((0 : Nat) : Int) = iZ ((1444 + 0 : Nat) : Int) := by rw [L1444, iZ_add]; congr 1
      refine wp1_ok (by decide) OK_222 (cc := cd_222) rfl (stops := [9]) (f := 30) ?_
      refine And.intro (by rw [ex]; exact (iZ_in (by constructor <;> omega)).mpr (by omega)) ?_
      refine And.intro (fun _ => ?_) (fun z => ?_)
      · refine And.intro trivial ?_
        unfold barD at hk
        rw [← he] at hk
        exact hk
      · rw [ex, iZ_clamp (by constructor <;> omega), show ((1444 + 0 : Nat) : Int).toNat = 1444 + 0 by omega, eb, iZ_le (by constructor <;> omega) (by constructor <;> omega)] at z
        omega
    | succ k ih =>
      intro hk0 he
      have eb := hM.2.2 (k + 1) hk0
      have rb := b2 (k + 1) hk0
      have ex : (1444 : Int32) + iZ ((k + 1 : Nat) : Int) = iZ ((1444 + (k + 1) : Nat) : Int) := by rw [L1444, iZ_add]; congr 1
      refine wp1_ok (by decide) OK_222 (cc := cd_222) rfl (stops := [9]) (f := 30) ?_
      refine And.intro (by rw [ex]; exact (iZ_in (by constructor <;> omega)).mpr (by omega)) ?_
      refine And.intro (fun z => ?_) (fun z => ?_)
      · rw [ex, iZ_clamp (by constructor <;> omega), show ((1444 + (k + 1) : Nat) : Int).toNat = 1444 + (k + 1) by omega, eb, iZ_le (by constructor <;> omega) (by constructor <;> omega)] at z
        refine And.intro trivial ?_
        have e2 : barN D t (k + 1) = k + 1 := by unfold barN; rw [if_pos (by omega)]
        unfold barD at hk
        rw [← he, e2] at hk
        exact hk
      · rw [ex, iZ_clamp (by constructor <;> omega), show ((1444 + (k + 1) : Nat) : Int).toNat = 1444 + (k + 1) by omega, eb, iZ_le (by constructor <;> omega) (by constructor <;> omega)] at z
        refine And.intro trivial ?_
        have e2 : barN D t (k + 1) = barN D t k := by rw [barN, if_neg (by omega)]
        have ed : iZ ((k + 1 : Nat) : Int) + -1 = iZ (k : Int) := by rw [LM1, iZ_add]; congr 1; omega
        rw [ed]
        exact ih (by omega) (by rw [← e2]; exact he)
  refine smC_wp [some (vR (some (23, 231))), some (vI (iZ (3 * t))), none] cd_222 [9] 30 OK_222 (by decide) rfl rfl (Nat.le_of_ble_eq_true rfl) ?_
  refine And.intro (by rw [L1, iZ_in (by decide)]; decide) ?_
  refine And.intro trivial ?_
  have e1 : gI m 29 237 (1 : Int32).toNatClampNeg = iZ D.2.2.1 := hM.1.2.1
  rw [e1, L1, iZ_sub, show ((D.2.2.1 : Int) - 1) = ((D.2.2.1 - 1 : Nat) : Int) by omega]
  exact loop (D.2.2.1 - 1) (by omega) rfl
theorem Q_sounds {k w : Int} {x y : Int32} (hx : x = iZ k) (hy : y = iZ w) (rk : R32 k) (rw' : R32 w) (hS : SI tp td tm D) (h : MI m tp td fl tm D)
    (hk : ∀ m', MI m' tp td fl tm D → Fr AMa m m' → K (some (vI (iZ (qSo tm D k w)))) m') : smC true 219 [vR (some (23, 231)), vI x, vI y] m K := by
  subst hx; subst hy
  unfold qSo at hk
  refine smC_wp [some (vR (some (23, 231))), some (vI (iZ k)), some (vI (iZ w))] cd_219 [5] 60 OK_219 (by decide) rfl rfl (Nat.le_of_ble_eq_true rfl) ?_
  refine And.intro trivial ?_
  obtain ⟨h0, F0⟩ := h.b0
  generalize sI m 23 231 0 0 = m0 at *
  refine wp1_ok (by decide) OK_219 (cc := cd_219) rfl (stops := []) (f := 60) ?_
  refine And.intro trivial (MI.writes hS h0 (fun m1 h1 S1 F1 => ?_))
  have hk := hk m1 h1 (F0.qa.tr F1.qa)
  have hl := hS.len hS.t5
  refine And.intro trivial (M_isTone rfl rk S1.len (by omega) (fun q => ?_) (fun q => ?_))
  rotate_left
  · rw [if_neg q] at hk
    refine And.intro (fun z => absurd rfl z) (fun _ => ?_)
    exact And.intro trivial hk
  rw [if_pos q] at hk
  have hkn : k.toNat < (wr tm (tm 5) D D.1).1.length := by omega
  obtain ⟨⟨t1, t2, t3⟩, t4, t5, t6⟩ := tone_ok hS hS.t5 hkn
  have tp' := S1.1.2.2 _ (tAt_mem hkn)
  have hr := S1.1.1.1.at hkn
  have hbp := bars_pos hS hkn
  have en := hS.en
  have ec : (iZ k).toNatClampNeg = k.toNat := iZ_clamp rk
  have ei : iZ k = iZ (k.toNat : Int) := by rw [Int.toNat_of_nonneg q.1]
  have hin : vp_in (iZ k) 3600 := (iZ_in rk).mpr (by omega)
  generalize tAt (wr tm (tm 5) D D.1).1 k.toNat = t at *
  obtain ⟨r1, r2, r3, r4, r5, r6, r7⟩ := id hr
  refine And.intro (fun _ => ?_) (fun z => absurd z (by decide))
  refine And.intro (fun u => ?_) ?_
  · have u := swk (k := 0) rw' (by decide) rfl u
    subst u
    refine And.intro hin ?_
    refine And.intro trivial ?_
    rw [ec, r2]; exact hk
  refine And.intro (fun u => ?_) ?_
  · have u := swk (k := 1) rw' (by decide) rfl u
    subst u
    refine And.intro hin ?_
    refine And.intro trivial ?_
    rw [ec, r1]; exact hk
  refine And.intro (fun u => ?_) ?_
  · have u := swk (k := 2) rw' (by decide) rfl u
    subst u
    refine And.intro hin ?_
    refine And.intro trivial ?_
    rw [ec, r5]; exact hk
  refine And.intro (fun u => ?_) ?_
  · have u := swk (k := 3) rw' (by decide) rfl u
    subst u
    refine And.intro hin ?_
    refine And.intro trivial ?_
    rw [ec, r3]; exact hk
  refine And.intro (fun u => ?_) ?_
  · have u := swk (k := 4) rw' (by decide) rfl u
    subst u
    refine And.intro hin ?_
    refine And.intro trivial ?_
    rw [ec, r4]; exact hk
  refine And.intro (fun u => ?_) ?_
  · have u := swk (k := 5) rw' (by decide) rfl u
    subst u
    refine And.intro trivial (M_alterOf (k := k.toNat) ei (by omega) h1.1.1 hr tp'.1.2 ?_)
    exact And.intro trivial hk
  refine And.intro (fun u => ?_) ?_
  · have u := swk (k := 6) rw' (by decide) rfl u
    subst u
    refine And.intro hin ?_
    refine And.intro trivial (M_barAt (by rw [ec]; exact r6) (by omega) hS h1.2.2.1 hbp ?_)
    exact And.intro trivial hk
  intro u
  rw [iZ_toInt rw'] at u
  have : qS D t w = -100 := by
    unfold qS
    rw [if_neg (by omega), if_neg (by omega), if_neg (by omega), if_neg (by omega), if_neg (by omega), if_neg (by omega), if_neg (by omega)]
  rw [this] at hk
  exact And.intro trivial hk
theorem Q_when {k c w : Int} {x y z : Int32} (hx : x = iZ k) (hy : y = iZ c) (hz : z = iZ w) (rk : R32 k) (rc : R32 c) (rw' : R32 w) (hS : SI tp td tm D) (h : MI m tp td fl tm D)
    (hk : ∀ m', MI m' tp td fl tm D → Fr AMa m m' → K (some (vL (iL (qWh tm D k c w)))) m') : smC true 223 [vR (some (23, 231)), vI x, vI y, vI z] m K := by
  subst hx; subst hy; subst hz
  unfold qWh at hk
  refine smC_wp [some (vR (some (23, 231))), some (vI (iZ k)), some (vI (iZ c)), some (vI (iZ w))] cd_223 [5] 60 OK_223 (by decide) rfl rfl (Nat.le_of_ble_eq_true rfl) ?_
  refine And.intro trivial ?_
  obtain ⟨h0, F0⟩ := h.b0
  generalize sI m 23 231 0 0 = m0 at *
  refine wp1_ok (by decide) OK_223 (cc := cd_223) rfl (stops := [9]) (f := 60) ?_
  refine And.intro trivial (MI.writes hS h0 (fun m1 h1 S1 F1 => ?_))
  have hk := hk m1 h1 (F0.qa.tr F1.qa)
  have hl := hS.len hS.t5
  have en := hS.en
  refine And.intro trivial ?_
  have bad : ¬ (((0 ≤ k ∧ k < ((wr tm (tm 5) D D.1).1.length : Int)) ∧ 0 ≤ c ∧ c ≤ 1) ∧ 0 ≤ w ∧ w ≤ 1) → smE true 223 37 [some (vR (some (23, 231))), some (vI (iZ k)), some (vI (iZ c)), some (vI (iZ w))] [] m1 K := by
    intro z
    refine wp_ok (by decide) OK_223 (cc := cd_223) rfl (stops := []) 20 _ _ _ _ ?_
    refine And.intro trivial ?_
    by_cases e : (0 ≤ k ∧ k < ((wr tm (tm 5) D D.1).1.length : Int)) ∧ 0 ≤ c ∧ c ≤ 1
    · rw [if_pos e, qPt_2 (fun y => z ⟨e, y⟩)] at hk; exact hk
    · rw [if_neg e] at hk; exact hk
  refine wp1_ok (by decide) OK_223 (cc := cd_223) rfl (stops := [37, 41]) (f := 60) ?_
  refine And.intro trivial (M_isTone rfl rk S1.len (by omega) (fun q => ?_) (fun q => ?_))
  rotate_left
  · refine And.intro (fun _ => ?_) (fun z => absurd rfl z)
    exact And.intro trivial (bad (fun z => q z.1.1))
  refine And.intro (fun z => absurd z (by decide)) (fun _ => ?_)
  refine And.intro trivial (M_in (v := c) (lo := 0) (hi := 1) rfl rc (by decide) (by decide) rfl rfl (fun z => ?_) (fun z => ?_))
  rotate_left
  · refine And.intro (fun _ => ?_) (fun z => absurd rfl z)
    exact And.intro trivial (bad (fun y => z y.1.2))
  refine And.intro (fun z => absurd z (by decide)) (fun _ => ?_)
  refine And.intro trivial (M_in (v := w) (lo := 0) (hi := 1) rfl rw' (by decide) (by decide) rfl rfl (fun y => ?_) (fun y => ?_))
  rotate_left
  · refine And.intro (fun z => absurd rfl z) (fun _ => ?_)
    exact And.intro trivial (bad (fun u => y u.2))
  refine And.intro (fun _ => ?_) (fun z => absurd z (by decide))
  rw [if_pos ⟨q, z⟩] at hk
  have hkn : k.toNat < (wr tm (tm 5) D D.1).1.length := by omega
  obtain ⟨_, t4, t5, t6⟩ := tone_ok hS hS.t5 hkn
  obtain ⟨r1, r2, r3, r4, r5, r6, r7⟩ := S1.1.1.1.at hkn
  have ec : (iZ k).toNatClampNeg = k.toNat := iZ_clamp rk
  have hin : vp_in (iZ k) 3600 := (iZ_in rk).mpr (by omega)
  refine And.intro trivial ?_
  refine wp1_ok (by decide) OK_223 (cc := cd_223) rfl (stops := []) (f := 60) ?_
  refine And.intro (fun u => ?_) (fun u => ?_)
  · rw [L0, iZ_eq rc (by decide)] at u
    rw [if_neg u] at hk
    refine And.intro hin ?_
    refine And.intro trivial (M_partL (by rw [ec]; exact r7) rfl (by omega) y (fun v hv => ?_))
    refine And.intro trivial ?_
    rw [hv]; exact hk
  · rw [L0, iZ_eq rc (by decide)] at u
    rw [if_pos u] at hk
    refine And.intro hin ?_
    refine And.intro trivial (M_partL (by rw [ec]; exact r6) rfl (by omega) y (fun v hv => ?_))
    refine And.intro trivial ?_
    rw [hv]; exact hk
theorem Q_inKey {up key : Int} {x y z : Int32} (hx : x = iZ i) (hy : y = iZ up) (hz : z = iZ key) (ri : R32 i) (ru : R32 up) (rk : R32 key) (hS : SI tp td tm D) (h : MI m tp td fl tm D)
    (hk : ∀ m', MI m' tp td fl tm D → Fr AMa m m' → K (some (vI (iZ (qIK tm D i up key)))) m') : smC true 231 [vR (some (23, 231)), vI x, vI y, vI z] m K := by
  subst hx; subst hy; subst hz
  unfold qIK at hk
  refine smC_wp [some (vR (some (23, 231))), some (vI (iZ i)), some (vI (iZ up)), some (vI (iZ key))] cd_231 [5] 60 OK_231 (by decide) rfl rfl (Nat.le_of_ble_eq_true rfl) ?_
  refine And.intro trivial ?_
  obtain ⟨h0, F0⟩ := h.b0
  generalize sI m 23 231 0 0 = m0 at *
  have hk := hk m0 h0 F0.qa
  refine wp1_ok (by decide) OK_231 (cc := cd_231) rfl (stops := [40, 43]) (f := 60) ?_
  refine And.intro trivial (M_isNote rfl ri hS.dok h0.2.2.1 (fun q => ?_) (fun q => ?_))
  rotate_left
  · rw [if_neg q] at hk
    refine And.intro (fun z => absurd rfl z) (fun _ => ?_)
    exact And.intro trivial hk
  rw [if_pos q] at hk
  have hn := hS.nok q
  have ei : iZ i = iZ (i.toNat : Int) := by rw [Int.toNat_of_nonneg q.1]
  have r3 : R32 (tm 3) := by have := hS.2.2.1.2.2.2.1; constructor <;> omega
  refine And.intro (fun _ => ?_) (fun z => absurd z (by decide))
  have cant : ¬ ((0 ≤ up ∧ up ≤ 1) ∧ (-7 ≤ key ∧ key ≤ 7)) → smE true 231 40 [some (vR (some (23, 231))), some (vI (iZ i)), some (vI (iZ up)), some (vI (iZ key))] [] m0 K := by
    intro z
    rw [if_neg z] at hk
    refine wp_ok (by decide) OK_231 (cc := cd_231) rfl (stops := []) 20 _ _ _ _ ?_
    exact And.intro trivial hk
  refine And.intro trivial (M_in (v := up) (lo := 0) (hi := 1) rfl ru (by decide) (by decide) rfl rfl (fun z => ?_) (fun z => ?_))
  rotate_left
  · refine And.intro (fun _ => ?_) (fun z => absurd rfl z)
    exact And.intro trivial (cant (fun y => z y.1))
  refine And.intro (fun z => absurd z (by decide)) (fun _ => ?_)
  refine And.intro trivial (M_isIn (v := key) (lo := -7) (hi := 7) (iZ_iL rk) rfl rfl (by obtain ⟨u, v⟩ := rk; constructor <;> omega) (by decide) (by decide) (fun y => ?_) (fun y => ?_))
  rotate_left
  · refine And.intro (fun z => absurd rfl z) (fun _ => ?_)
    exact And.intro trivial (cant (fun z => y z.2))
  refine And.intro (fun _ => ?_) (fun z => absurd z (by decide))
  rw [if_pos ⟨z, y⟩] at hk
  refine And.intro trivial ?_
  refine wp1_ok (by decide) OK_231 (cc := cd_231) rfl (stops := []) (f := 60) ?_
  refine And.intro (fun o => ?_) (fun o => ?_)
  · rw [L1, iZ_eq ru (by decide)] at o
    rw [if_neg o] at hk
    refine And.intro trivial (M_lower (i := i.toNat) ei rfl y h0.1.1 h0.2.1 r3 hS.dok h0.2.2.1 hn.2 q.2.2 ?_)
    exact And.intro trivial hk
  · rw [L1, iZ_eq ru (by decide)] at o
    rw [if_pos o] at hk
    refine And.intro trivial (M_upper (i := i.toNat) ei rfl y h0.1.1 h0.2.1 r3 hS.dok h0.2.2.1 hn.2 q.2.2 ?_)
    exact And.intro trivial hk
/-- the first tone that sounds at a time -/
def fAt (ts : List Tn) (u l : Int) : Nat → Nat → Int
  | 0, _ => -1
  | s + 1, k => if (tAt ts k).2.2.2.2.1 * l ≤ u * 512 ∧ u * 512 < (tAt ts k).2.2.2.2.1 * l + (tAt ts k).2.2.2.2.2 * l then (k : Int) else fAt ts u l s (k + 1)
def qAt (tm : Nat → Int) (D : Dt) (u l : Int) : Int := if 0 ≤ u ∧ 1 ≤ l ∧ l ≤ 10000 then fAt (wr tm (tm 5) D D.1).1 u l (wr tm (tm 5) D D.1).1.length 0 else -3
theorem C_at {u l : Int} {x y : Int32} (hx : x = iZ u) (hy : y = iZ l) (ru : R32 u) (rl : R32 l) (hS : SI tp td tm D) (h : CJ m tp td fl tm D a sa sb j st)
    (hk : ∀ m', CI m' tp td fl tm D a → FC m m' → K (some (vI (iZ (qAt tm D u l)))) m') : smC true 121 [vR (some (0, 0)), vI x, vI y] m K := by
  subst hx; subst hy
  unfold qAt at hk
  refine smC_wp [some (vR (some (0, 0))), some (vI (iZ u)), some (vI (iZ l)), none, none, none, none, none, none, none, none] cd_121 [16, 19] 60 OK_121 (by decide) rfl rfl (Nat.le_of_ble_eq_true rfl) ?_
  have bad : ¬ (0 ≤ u ∧ 1 ≤ l ∧ l ≤ 10000) → smE true 121 16 [some (vR (some (0, 0))), some (vI (iZ u)), some (vI (iZ l)), none, none, none, none, none, none, none, none] [] m K := by
    intro z
    rw [if_neg z] at hk
    refine wp_ok (by decide) OK_121 (cc := cd_121) rfl (stops := []) 20 _ _ _ _ ?_
    exact And.intro trivial (hk m ⟨sa, sb, j, st, h⟩ (FC.rf _))
  refine And.intro (fun z => ?_) (fun z => ?_)
  · rw [L0, iZ_lt ru (by decide)] at z
    exact And.intro trivial (bad (by omega))
  rw [L0, iZ_lt ru (by decide)] at z
  refine And.intro (fun y => ?_) (fun y => ?_)
  · rw [L1, iZ_lt rl (by decide)] at y
    exact And.intro trivial (bad (by omega))
  rw [L1, iZ_lt rl (by decide)] at y
  refine And.intro (fun v => ?_) (fun v => ?_)
  rotate_left
  · rw [L10000, iZ_le rl (by decide)] at v
    exact And.intro trivial (bad (by omega))
  rw [L10000, iZ_le rl (by decide)] at v
  have hr : 0 ≤ u ∧ 1 ≤ l ∧ l ≤ 10000 := by omega
  rw [if_pos hr] at hk
  obtain ⟨ru1, ru2⟩ := ru
  refine And.intro trivial ?_
  refine wp1_ok (by decide) OK_121 (cc := cd_121) rfl (stops := [42]) (f := 60) ?_
  refine Exists.intro _ (And.intro h.1.2.1 ?_)
  refine And.intro trivial (h.written (fun m1 j1 h1 FC1 => ?_))
  have hk := hk m1 ⟨sa, sb, j1, false, h1⟩ FC1
  obtain ⟨a1, a2, a3, a4, r, ⟨p1, p2, p3, p4⟩, ⟨l1, l2, l3, l4⟩, hn, hv, e1, hW⟩ := h1.rows
  have en := hS.en
  have el : (iZ l).toInt64 = iL l := iZ_iL rl
  have eu : (iZ u).toInt64 * 512 = iL (u * 512) := by rw [iZ_iL ⟨ru1, ru2⟩, show (512 : Int64) = iL 512 from rfl, iL_mul]
  refine And.intro trivial ?_
  rw [eu]
  have loop : ∀ (s k : Nat) (x7 x8 x9 x10 : Option SV), k + s = (wr tm (tm 5) D D.1).1.length → (x7 = none ∧ x8 = none ∧ x9 = none ∧ x10 = none ∨ ∃ y7 y9, x7 = some (vL y7) ∧ x8 = none ∧ x9 = some (vL y9) ∧ x10 = none) → K (some (vI (iZ (fAt (wr tm (tm 5) D D.1).1 u l s k)))) m1 → smE true 121 42 [some (vR (some (0, 0))), some (vI (iZ u)), some (vI (iZ l)), some (vR (some (6, 6))), some (vL (iL (u * 512))), none, some (vI (iZ (k : Nat))), x7, x8, x9, x10] [] m1 K := by
    intro s
    induction s with
    | zero =>
      intro k x7 x8 x9 x10 ek hx hK
      refine wp1_ok (by decide) OK_121 (cc := cd_121) rfl (stops := [42]) (f := 60) ?_
      refine And.intro (fun _ => ?_) (fun z => ?_)
      · exact And.intro trivial hK
      · rw [e1, iZ_le (by constructor <;> omega) (by constructor <;> omega)] at z; omega
    | succ s ih =>
      intro k x7 x8 x9 x10 ek hx hK
      have hkn : k < (wr tm (tm 5) D D.1).1.length := by omega
      obtain ⟨_, t4, t5, t6⟩ := tone_ok hS hS.t5 hkn
      obtain ⟨v1, v2, v3, v4⟩ := hv.at hkn
      have ec : (iZ (k : Int)).toNatClampNeg = k := by rw [iZ_clamp (by constructor <;> omega)]; omega
      have hin : ∀ {r' : Nat}, r' = r → vp_in (iZ (k : Int)) r' := fun e => (iZ_in (by constructor <;> omega)).mpr (by omega)
      unfold fAt at hK
      generalize hts : tAt (wr tm (tm 5) D D.1).1 k = t at *
      have q1 := mulB (show 0 ≤ t.2.2.2.2.1 ∧ t.2.2.2.2.1 ≤ 1000000 by omega) (show 0 ≤ l ∧ l ≤ 10000 by omega)
      have q2 := mulB (show 0 ≤ t.2.2.2.2.2 ∧ t.2.2.2.2.2 ≤ 1000000 by omega) (show 0 ≤ l ∧ l ≤ 10000 by omega)
      have x3 : (gI m1 20 a3 (iZ (k : Int)).toNatClampNeg).toInt64 * (iZ l).toInt64 = iL (t.2.2.2.2.1 * l) := by rw [ec, v3, el, iZ_iL (by constructor <;> omega), iL_mul]
      have x4 : (gI m1 20 a4 (iZ (k : Int)).toNatClampNeg).toInt64 * (iZ l).toInt64 = iL (t.2.2.2.2.2 * l) := by rw [ec, v4, el, iZ_iL (by constructor <;> omega), iL_mul]
      refine wp1_ok (by decide) OK_121 (cc := cd_121) rfl (stops := [42]) (f := 60) ?_
      refine And.intro (fun z => ?_) (fun z => ?_)
      · rw [e1, iZ_le (by constructor <;> omega) (by constructor <;> omega)] at z; omega
      have go : ∀ (y7 y9 : Int64), ¬ (t.2.2.2.2.1 * l ≤ u * 512 ∧ u * 512 < t.2.2.2.2.1 * l + t.2.2.2.2.2 * l) → smE true 121 42 [some (vR (some (0, 0))), some (vI (iZ u)), some (vI (iZ l)), some (vR (some (6, 6))), some (vL (iL (u * 512))), none, some (vI (iZ (k : Int) + 1)), some (vL y7), none, some (vL y9), none] [] m1 K := by
        intro y7 y9 hc
        rw [if_neg hc] at hK
        rw [L1, iZ_add]
        exact ih (k + 1) _ _ _ _ (by omega) (Or.inr ⟨y7, y9, rfl, rfl, rfl, rfl⟩) hK
      refine Exists.intro _ (And.intro p3 ?_)
      refine And.intro (hin l3) ?_
      rcases hx with ⟨rfl, rfl, rfl, rfl⟩ | ⟨y7, y9, rfl, rfl, rfl, rfl⟩
      · refine Exists.intro _ (And.intro p4 ?_)
        refine And.intro (hin l4) ?_
        refine And.intro (fun y => ?_) (fun y => ?_)
        · rw [lg_gt, x3, iL_lt (by constructor <;> omega) (by constructor <;> omega)] at y
          exact And.intro trivial (go _ _ (by omega))
        rw [lg_gt, x3, iL_lt (by constructor <;> omega) (by constructor <;> omega)] at y
        refine And.intro (fun w => ?_) (fun w => ?_)
        · rw [lg_ge, x3, x4, iL_add, iL_le (by constructor <;> omega) (by constructor <;> omega)] at w
          exact And.intro trivial (go _ _ (by omega))
        · rw [lg_ge, x3, x4, iL_add, iL_le (by constructor <;> omega) (by constructor <;> omega)] at w
          rw [if_pos (by omega)] at hK
          exact And.intro trivial hK
      · refine Exists.intro _ (And.intro p4 ?_)
        refine And.intro (hin l4) ?_
        refine And.intro (fun y => ?_) (fun y => ?_)
        · rw [lg_gt, x3, iL_lt (by constructor <;> omega) (by constructor <;> omega)] at y
          exact And.intro trivial (go _ _ (by omega))
        rw [lg_gt, x3, iL_lt (by constructor <;> omega) (by constructor <;> omega)] at y
        refine And.intro (fun w => ?_) (fun w => ?_)
        · rw [lg_ge, x3, x4, iL_add, iL_le (by constructor <;> omega) (by constructor <;> omega)] at w
          exact And.intro trivial (go _ _ (by omega))
        · rw [lg_ge, x3, x4, iL_add, iL_le (by constructor <;> omega) (by constructor <;> omega)] at w
          rw [if_pos (by omega)] at hK
          exact And.intro trivial hK
  exact loop _ 0 _ _ _ _ (by omega) (Or.inl ⟨rfl, rfl, rfl, rfl⟩) hk
theorem Q_at {u l : Int} {x y : Int32} (hx : x = iZ u) (hy : y = iZ l) (ru : R32 u) (rl : R32 l) (hS : SI tp td tm D) (h : MI m tp td fl tm D)
    (hk : ∀ m', MI m' tp td fl tm D → Fr AMa m m' → K (some (vI (iZ (qAt tm D u l)))) m') : smC true 227 [vR (some (23, 231)), vI x, vI y] m K := by
  subst hx; subst hy
  unfold qAt at hk
  refine smC_wp [some (vR (some (23, 231))), some (vI (iZ u)), some (vI (iZ l)), none, none, none] cd_227 [5] 60 OK_227 (by decide) rfl rfl (Nat.le_of_ble_eq_true rfl) ?_
  refine And.intro trivial ?_
  obtain ⟨h0, F0⟩ := h.b0
  generalize sI m 23 231 0 0 = m0 at *
  have bad : ¬ (0 ≤ u ∧ 1 ≤ l ∧ l ≤ 10000) → smE true 227 21 [some (vR (some (23, 231))), some (vI (iZ u)), some (vI (iZ l)), none, none, none] [] m0 K := by
    intro z
    rw [if_neg z] at hk
    refine wp_ok (by decide) OK_227 (cc := cd_227) rfl (stops := []) 20 _ _ _ _ ?_
    exact And.intro trivial (hk m0 h0 F0.qa)
  refine wp1_ok (by decide) OK_227 (cc := cd_227) rfl (stops := [21, 24]) (f := 60) ?_
  refine And.intro (fun z => ?_) (fun z => ?_)
  · rw [L0, iZ_lt ru (by decide)] at z
    exact And.intro trivial (bad (by omega))
  rw [L0, iZ_lt ru (by decide)] at z
  refine And.intro trivial (M_isIn (v := l) (lo := 1) (hi := 10000) (iZ_iL rl) rfl rfl (by obtain ⟨u, v⟩ := rl; constructor <;> omega) (by decide) (by decide) (fun y => ?_) (fun y => ?_))
  rotate_left
  · refine And.intro (fun z => absurd rfl z) (fun _ => ?_)
    exact And.intro trivial (bad (by omega))
  refine And.intro (fun _ => ?_) (fun z => absurd z (by decide))
  rw [if_pos ⟨by omega, y⟩] at hk
  obtain ⟨ru1, ru2⟩ := ru
  refine And.intro trivial ?_
  refine wp1_ok (by decide) OK_227 (cc := cd_227) rfl (stops := [38]) (f := 60) ?_
  refine And.intro trivial (MI.writes hS h0 (fun m1 h1 S1 F1 => ?_))
  have hk := hk m1 h1 (F0.qa.tr F1.qa)
  have hl := hS.len hS.t5
  have en := hS.en
  have e1 := S1.len
  have el : (iZ l).toInt64 = iL l := iZ_iL rl
  have eu : (iZ u).toInt64 * 1536 = iL (3 * (u * 512)) := by
    rw [iZ_iL ⟨ru1, ru2⟩, show (1536 : Int64) = iL 1536 from rfl, iL_mul]; congr 1; omega
  refine And.intro trivial ?_
  rw [eu]
  have loop : ∀ (s k : Nat), k + s = (wr tm (tm 5) D D.1).1.length → K (some (vI (iZ (fAt (wr tm (tm 5) D D.1).1 u l s k)))) m1 → smE true 227 38 [some (vR (some (23, 231))), some (vI (iZ u)), some (vI (iZ l)), some (vL (iL (3 * (u * 512)))), none, some (vI (iZ (k : Nat)))] [] m1 K := by
    intro s
    induction s with
    | zero =>
      intro k ek hK
      refine wp1_ok (by decide) OK_227 (cc := cd_227) rfl (stops := [38]) (f := 60) ?_
      refine And.intro (fun _ => ?_) (fun z => ?_)
      · exact And.intro trivial hK
      · rw [e1, iZ_le (by constructor <;> omega) (by constructor <;> omega)] at z; omega
    | succ s ih =>
      intro k ek hK
      have hkn : k < (wr tm (tm 5) D D.1).1.length := by omega
      obtain ⟨_, t4, t5, t6⟩ := tone_ok hS hS.t5 hkn
      obtain ⟨_, _, _, _, _, v3, v4⟩ := S1.1.1.1.at hkn
      have ec : (iZ (k : Int)).toNatClampNeg = k := by rw [iZ_clamp (by constructor <;> omega)]; omega
      have hin : vp_in (iZ (k : Int)) 3600 := (iZ_in (by constructor <;> omega)).mpr (by omega)
      unfold fAt at hK
      generalize hts : tAt (wr tm (tm 5) D D.1).1 k = t at *
      have q1 := mulB (show 0 ≤ t.2.2.2.2.1 ∧ t.2.2.2.2.1 ≤ 1000000 by omega) (show 0 ≤ l ∧ l ≤ 10000 by omega)
      have q2 := mulB (show 0 ≤ t.2.2.2.2.2 ∧ t.2.2.2.2.2 ≤ 1000000 by omega) (show 0 ≤ l ∧ l ≤ 10000 by omega)
      have x3 : (gI m1 39 247 (iZ (k : Int)).toNatClampNeg).toInt64 * (iZ l).toInt64 = iL (3 * (t.2.2.2.2.1 * l)) := by rw [ec, v3, el, iZ_iL (by constructor <;> omega), iL_mul, Int.mul_assoc]
      have x4 : (gI m1 39 247 (iZ (k : Int)).toNatClampNeg + gI m1 40 248 (iZ (k : Int)).toNatClampNeg).toInt64 * (iZ l).toInt64 = iL (3 * (t.2.2.2.2.1 * l + t.2.2.2.2.2 * l)) := by
        rw [ec, v3, v4, iZ_add, el, iZ_iL (by constructor <;> omega), iL_mul]
        congr 1
        rw [← Int.mul_add, Int.mul_assoc, Int.add_mul]
      have go : ¬ (t.2.2.2.2.1 * l ≤ u * 512 ∧ u * 512 < t.2.2.2.2.1 * l + t.2.2.2.2.2 * l) → smE true 227 38 [some (vR (some (23, 231))), some (vI (iZ u)), some (vI (iZ l)), some (vL (iL (3 * (u * 512)))), none, some (vI (iZ (k : Int) + 1))] [] m1 K := by
        intro hc
        rw [if_neg hc] at hK
        rw [L1, iZ_add]
        exact ih (k + 1) (by omega) hK
      refine wp1_ok (by decide) OK_227 (cc := cd_227) rfl (stops := [38]) (f := 60) ?_
      refine And.intro (fun z => ?_) (fun z => ?_)
      · rw [e1, iZ_le (by constructor <;> omega) (by constructor <;> omega)] at z; omega
      refine And.intro hin ?_
      refine And.intro (fun y => ?_) (fun y => ?_)
      · rw [lg_gt, x3, iL_lt (by constructor <;> omega) (by constructor <;> omega)] at y
        exact And.intro trivial (go (by omega))
      rw [lg_gt, x3, iL_lt (by constructor <;> omega) (by constructor <;> omega)] at y
      refine And.intro hin ?_
      refine And.intro hin ?_
      refine And.intro (fun w => ?_) (fun w => ?_)
      · rw [lg_ge, x4, iL_le (by constructor <;> omega) (by constructor <;> omega)] at w
        exact And.intro trivial (go (by omega))
      · rw [lg_ge, x4, iL_le (by constructor <;> omega) (by constructor <;> omega)] at w
        rw [if_pos (by omega)] at hK
        exact And.intro trivial hK
  exact loop _ 0 (by omega) hk
end OPS7
