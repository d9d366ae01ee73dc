/-! THE CLASS's reader: fractions, tones -/
theorem pNum_ok {tp : Nat → Int} {n : Nat} {lo hi v : Int} {t t' : TK} (hT : TPOK tp) (hn : n ≤ 800) (ht : TOK tp n t) (h : pNum tp n lo hi t = .inr (v, t')) : (lo ≤ v ∧ v ≤ hi) ∧ TOK tp n t' ∧ t.2.1 + 1 ≤ t'.2.1 ∧ t.1 = 2 ∧ v = t.2.2.1 := by
  unfold pNum at h
  by_cases h1 : t.1 ≠ 2
  · rw [if_pos h1] at h; cases h
  rw [if_neg h1] at h
  by_cases h2 : 3 < t.2.2.2 - t.2.1 ∨ t.2.2.1 < lo ∨ hi < t.2.2.1
  · rw [if_pos h2] at h; cases h
  rw [if_neg h2] at h
  cases h
  have := nx_ok hT hn ht
  have h3 := ht.2.2.2.1 (by omega)
  exact ⟨by omega, this.1, by omega, by omega, rfl⟩
theorem pw2_32 : ∀ v : Nat, v < 33 → pw2 v = true → v = 1 ∨ v = 2 ∨ v = 4 ∨ v = 8 ∨ v = 16 ∨ v = 32 := by decide +kernel
theorem frac_rng {u v : Int} (hu : 1 ≤ u ∧ u ≤ 32) (hv : 1 ≤ v ∧ v ≤ 32) (hp : pw2 v = true) : 16 ≤ u * 512 / v ∧ u * 512 / v ≤ 16384 ∧ u * 512 / v % 16 = 0 ∧ 512 / v * u = u * 512 / v ∧ 512 / v * v = 512 ∧ (u ≤ 16 → u * 512 / v ≤ 8192) := by
  have := pw2_32 v.toNat (by omega) (by rw [Int.toNat_of_nonneg (by omega)]; exact hp)
  have : v = 1 ∨ v = 2 ∨ v = 4 ∨ v = 8 ∨ v = 16 ∨ v = 32 := by omega
  rcases this with rfl | rfl | rfl | rfl | rfl | rfl <;> refine ⟨?_, ?_, ?_, ?_, ?_, ?_⟩ <;> omega
theorem pFrac_ok {tp : Nat → Int} {n : Nat} {mu ml l : Int} {t t' : TK} (hT : TPOK tp) (hn : n ≤ 800) (ht : TOK tp n t) (hm : mu ≤ 32 ∧ ml ≤ 32) (h : pFrac tp n mu ml t = .inr (l, t')) : (16 ≤ l ∧ l ≤ 16384 ∧ l % 16 = 0 ∧ (mu ≤ 16 → l ≤ 8192)) ∧ TOK tp n t' ∧ t.2.1 + 3 ≤ t'.2.1 := by
  unfold pFrac at h
  cases h1 : pNum tp n 1 mu t with
  | inl e => rw [h1] at h; cases h
  | inr r =>
    obtain ⟨u, t1⟩ := r
    have o1 := pNum_ok hT hn ht h1
    rw [h1] at h
    simp only at h
    by_cases h2 : ¬ (t1.1 = 3 ∧ t1.2.2.1 = 47)
    · rw [if_pos h2] at h; cases h
    rw [if_neg h2] at h
    have o2 := nx_ok hT hn o1.2.1
    have o1p := o1.2.1.2.2.2.1 (by omega)
    by_cases h3 : (nx tp n t1).1 = 2 ∧ ¬ pw2 (nx tp n t1).2.2.1 = true
    · rw [if_pos h3] at h; cases h
    rw [if_neg h3] at h
    cases h4 : pNum tp n 1 ml (nx tp n t1) with
    | inl e => rw [h4] at h; cases h
    | inr r =>
      obtain ⟨v, t3⟩ := r
      have o3 := pNum_ok hT hn o2.1 h4
      rw [h4] at h
      simp only at h
      cases h
      have hp : pw2 v = true := by
        rw [o3.2.2.2.2]
        cases hq : pw2 (nx tp n t1).2.2.1 with
        | true => rfl
        | false => exact absurd ⟨o3.2.2.2.1, by rw [hq]; simp⟩ h3
      have f := frac_rng (u := u) (v := v) (by omega) (by omega) hp
      exact ⟨⟨f.1, f.2.1, f.2.2.1, fun w => f.2.2.2.2.2 (by omega)⟩, o3.2.1, by omega⟩
theorem sgn_rng (t : TK) : -1 ≤ sgn t ∧ sgn t ≤ 2 := by
  unfold sgn; split
  · split
    · decide
    · split
      · decide
      · split <;> decide
  · decide
theorem ltB_rng (b : Int) : -1 ≤ ltB b ∧ ltB b ≤ 6 := by unfold ltB; split <;> omega
theorem letT_rng (tp : Nat → Int) (t : TK) : -1 ≤ letT tp t ∧ letT tp t ≤ 6 := by
  unfold letT; split
  · exact ltB_rng _
  · decide
section CFR
variable {m : Mem} {K : Option SV → Mem → Prop} {tp : Nat → Int} {n : Nat} {t : TK}
theorem c_readFraction {mu ml : Int} {x y : Int32} (hx : x = iZ mu) (hy : y = iZ ml) (rmu : 1 ≤ mu ∧ mu ≤ 32) (rml : 1 ≤ ml ∧ ml ≤ 32) (hT : TPOK tp) (hn : n ≤ 800) (ht : TOK tp n t) (hR : RS m tp n t)
    (hF : ∀ m' e, pFrac tp n mu ml t = .inl e → FTd m' e → Fr AR m m' → K (some (vI 0)) m') (hS : ∀ m' l t', pFrac tp n mu ml t = .inr (l, t') → RS m' tp n t' → gI m' 1 1 8 = iZ l → Fr AR m m' → K (some (vI 1)) m') : smC true 24 [vR (some (1, 1)), vI x, vI y] m K := by
  subst hx; subst hy
  unfold pFrac at hF hS
  refine smC_wp [some (vR (some (1, 1))), some (vI (iZ mu)), some (vI (iZ ml)), none] cd_24 [63] 60 OK_24 (by decide) rfl rfl (Nat.le_of_ble_eq_true rfl) ?_
  refine And.intro trivial (c_readNumber (lo := 1) (hi := mu) rfl rfl (by decide) (by omega) hT hn ht hR (fun m1 e h1 f1 F1 => ?_) (fun m1 u t1 h1 ru R1 e8 F1 => ?_))
  · refine And.intro (fun z => absurd rfl z) (fun _ => ?_)
    exact And.intro (Or.inl rfl) (hF m1 e (by rw [h1]) f1 F1)
  have o1 := pNum_ok hT hn ht h1
  rw [h1] at hF hS
  simp only at hF hS
  refine And.intro (fun _ => ?_) (fun z => absurd z (by decide))
  refine And.intro trivial (c_takeByte (b := 47) rfl (by decide) hT hn o1.2.1 R1 (fun m2 h2 R2 F2 => ?_) (fun h2 => ?_))
  rotate_left
  · refine And.intro (fun z => absurd rfl z) (fun _ => ?_)
    have h2 : ¬ (t1.1 = 3 ∧ t1.2.2.1 = 47) := h2
    rw [if_pos h2] at hF
    refine And.intro trivial (c_fail (a := 1) (p := t1.2.1) rfl R1.2.2.1 (fun m3 f1 f2 F3 => ?_))
    exact And.intro (Or.inl rfl) (hF m3 _ rfl ⟨f1, f2⟩ (F1.tr (F3.mono (fun t n k z => AF_AR z))))
  rw [if_neg (fun w => w h2)] at hF hS
  have o2 := nx_ok hT hn o1.2.1
  have F12 : Fr AR m m2 := F1.tr (F2.mono (fun t n k z => AT_AR z))
  generalize eN : nx tp n t1 = t2 at *
  refine And.intro (fun _ => ?_) (fun z => absurd z (by decide))
  have last : ¬ (t2.1 = 2 ∧ ¬ pw2 t2.2.2.1 = true) → smE true 24 63 [some (vR (some (1, 1))), some (vI (iZ mu)), some (vI (iZ ml)), some (vI (iZ u))] [] m2 K := by
    intro h3
    rw [if_neg h3] at hF hS
    refine wp_ok (by decide) OK_24 (cc := cd_24) rfl (stops := []) 60 _ _ _ _ ?_
    refine And.intro trivial (c_readNumber (lo := 1) (hi := ml) rfl rfl (by decide) (by omega) hT hn o2.1 R2 (fun m3 e h4 f3 F3 => ?_) (fun m3 v t3 h4 rv R3 e8 F3 => ?_))
    · refine And.intro (fun z => absurd rfl z) (fun _ => ?_)
      exact And.intro (Or.inl rfl) (hF m3 e (by rw [h4]) f3 (F12.tr F3))
    · refine And.intro (fun _ => ?_) (fun z => absurd z (by decide))
      rw [h4] at hS
      simp only at hS
      refine And.intro (fun z => ?_) (fun z => ?_)
      · rw [e8, L0, iZ_le (by constructor <;> omega) (by decide)] at z; omega
      refine And.intro (fun z => ?_) ?_
      · rw [e8, L0, iZ_eq (by constructor <;> omega) (by decide)] at z; omega
      refine And.intro (Or.inr rfl) ?_
      rw [e8, L512, iZ_mul, iZ_div (by constructor <;> omega) (by constructor <;> omega) (by omega) (by omega)]
      refine hS _ _ _ rfl (R3.fr (A := fun t n k => t = 1 ∧ n = 1 ∧ k = 8) (Fr.st ⟨rfl, rfl, rfl⟩) (fun n k => by omega) (fun k hk => by omega)) (by rw [gI_s, if_pos ⟨rfl, rfl, rfl⟩]) ((F12.tr F3).tr (Fr.st ⟨rfl, rfl, by omega⟩))
  have q1 := o2.1.1
  have q3 := o2.1.2.2.1
  rw [e8]
  refine And.intro (fun z => ?_) (fun z => ?_)
  · rw [R2.2.1, L2, iZ_eq (by constructor <;> omega) (by decide)] at z
    exact And.intro trivial (last (fun w => z w.1))
  rw [R2.2.1, L2, iZ_eq (by constructor <;> omega) (by decide)] at z
  refine And.intro trivial (c_isPow R2.2.2.2.1 (by constructor <;> omega) (fun w => ?_) (fun w => ?_))
  · refine And.intro (fun _ => ?_) (fun y => absurd y (by decide))
    exact And.intro trivial (last (fun u => u.2 w))
  · refine And.intro (fun y => absurd rfl y) (fun _ => ?_)
    rw [if_pos ⟨z, w⟩] at hF
    refine And.intro trivial (c_fail (a := 2) (p := t2.2.1) rfl R2.2.2.1 (fun m3 f1 f2 F3 => ?_))
    exact And.intro (Or.inl rfl) (hF m3 _ rfl ⟨f1, f2⟩ (F12.tr (F3.mono (fun t n k z => AF_AR z))))
def AP : Nat → Nat → Nat → Prop := fun t n k => AR t n k ∨ (t = 3 ∧ n = 3)
theorem AR_AP {t n k : Nat} (h : AR t n k) : AP t n k := Or.inl h
def CTo (m : Mem) (told : Nat → Int) : Prop := ∀ k, k < 63 → gI m 3 3 k = iZ (told k)
def TDOK (told : Nat → Int) : Prop := ∀ k, k < 63 → -1 ≤ told k ∧ told k ≤ 2
theorem upq_s {α : Type} (g : Nat → α) (k : Nat) (v : α) : upq g k v k = v := by unfold upq; rw [if_pos rfl]
theorem pPitch_ok {key : Int} {told told' : Nat → Int} {x : Int × Int × Int} {t' : TK} (hT : TPOK tp) (hn : n ≤ 800) (ht : TOK tp n t) (htd : TDOK told) (h : pPitch tp n key told t = .inr (x, told', t')) : (0 ≤ x.1 ∧ x.1 ≤ 6) ∧ (0 ≤ x.2.1 ∧ x.2.1 ≤ 8) ∧ TDOK told' ∧ TOK tp n t' ∧ t.2.1 + 2 ≤ t'.2.1 ∧ x.2.2 = byN (7 * x.2.1 + x.1) (told' (7 * x.2.1 + x.1).toNat) key ∧ 0 ≤ letT tp t := by
  unfold pPitch at h
  have hl := letT_rng tp t
  by_cases h1 : letT tp t < 0
  · rw [if_pos h1] at h; cases h
  rw [if_neg h1] at h
  have o1 := nx_ok hT hn ht
  have hs := sgn_rng (nx tp n t)
  have hw : t.1 = 1 := by
    unfold letT at h1
    by_cases q : t.1 = 1 ∧ t.2.2.2 = t.2.1 + 1
    · exact q.1
    · rw [if_neg q] at h1; exact absurd (by decide) h1
  have op := ht.2.2.2.1 (by omega)
  have o2 : TOK tp n (if sgn (nx tp n t) = 2 then nx tp n t else nx tp n (nx tp n t)) ∧ t.2.1 + 1 ≤ (if sgn (nx tp n t) = 2 then nx tp n t else nx tp n (nx tp n t)).2.1 := by
    split
    · exact ⟨o1.1, by omega⟩
    · have o3 := nx_ok hT hn o1.1
      have := o1.1.2.1
      exact ⟨o3.1, by omega⟩
  generalize (if sgn (nx tp n t) = 2 then nx tp n t else nx tp n (nx tp n t)) = t2 at h o2
  cases h2 : pNum tp n 0 8 t2 with
  | inl e => rw [h2] at h; cases h
  | inr r =>
    obtain ⟨o, t3⟩ := r
    have o3 := pNum_ok hT hn o2.1 h2
    rw [h2] at h
    simp only at h
    cases h
    refine ⟨by show 0 ≤ letT tp t ∧ letT tp t ≤ 6; omega, o3.1, ?_, o3.2.1, by omega, rfl, by omega⟩
    split
    · exact htd
    · intro k hk
      unfold upq
      split
      · exact hs
      · exact htd k hk
theorem c_readPitch {key : Int} {told : Nat → Int} (rk : -7 ≤ key ∧ key ≤ 7) (hk : gI m 1 1 10 = iZ key) (htd : TDOK told) (hto : CTo m told) (hT : TPOK tp) (hn : n ≤ 800) (ht : TOK tp n t) (hR : RS m tp n t)
    (hF : ∀ m' e, pPitch tp n key told t = .inl e → FTd m' e → Fr AP m m' → K (some (vI 0)) m') (hS : ∀ m' x told' t', pPitch tp n key told t = .inr (x, told', t') → RS m' tp n t' → CTo m' told' → gI m' 1 1 8 = iZ (pit x.2.2 (7 * x.2.1 + x.1)) → Fr AP m m' → K (some (vI 1)) m') : smC true 18 [vR (some (1, 1))] m K := by
  unfold pPitch at hF hS
  have hl := letT_rng tp t
  have hs := sgn_rng (nx tp n t)
  have o1 := nx_ok hT hn ht
  refine smC_wp [some (vR (some (1, 1))), none, none, none] cd_18 [37] 60 OK_18 (by decide) rfl rfl (Nat.le_of_ble_eq_true rfl) ?_
  refine And.intro trivial (c_letterHere hT hn ht hR ?_)
  refine And.intro (fun z => ?_) (fun z => ?_)
  rotate_left
  · rw [L0, iZ_le (by decide) (by constructor <;> omega)] at z
    rw [if_pos (by omega)] at hF
    refine And.intro trivial (c_fail (a := 1) (p := t.2.1) rfl hR.2.2.1 (fun m3 f1 f2 F3 => ?_))
    exact And.intro (Or.inl rfl) (hF m3 _ rfl ⟨f1, f2⟩ (F3.mono (fun t n k z => AR_AP (AF_AR z))))
  rw [L0, iZ_le (by decide) (by constructor <;> omega)] at z
  rw [if_neg (by omega)] at hF hS
  refine And.intro trivial (c_adv hT hn ht hR (fun m1 R1 F1 => ?_))
  refine And.intro trivial (c_signHere o1.1 R1 ?_)
  generalize eT2 : (if sgn (nx tp n t) = 2 then nx tp n t else nx tp n (nx tp n t)) = t2 at hF hS
  have rest : ∀ m2, RS m2 tp n t2 → TOK tp n t2 → Fr AR m m2 → smE true 18 37 [some (vR (some (1, 1))), some (vI (iZ (letT tp t))), some (vI (iZ (sgn (nx tp n t)))), none] [] m2 K := by
    intro m2 R2 o2 F2
    refine wp_ok (by decide) OK_18 (cc := cd_18) rfl (stops := [59]) 60 _ _ _ _ ?_
    refine And.intro trivial (c_readNumber (lo := 0) (hi := 8) rfl rfl (by decide) (by decide) hT hn o2 R2 (fun m3 e h1 f1 F3 => ?_) (fun m3 o t3 h1 ro R3 e8 F3 => ?_))
    · refine And.intro (fun z => absurd rfl z) (fun _ => ?_)
      exact And.intro (Or.inl rfl) (hF m3 e (by rw [h1]) f1 ((F2.tr F3).mono (fun t n k z => AR_AP z)))
    refine And.intro (fun _ => ?_) (fun z => absurd z (by decide))
    rw [h1] at hS
    simp only at hS
    have F23 : Fr AR m m3 := F2.tr F3
    have hto3 : CTo m3 told := fun k hk => (F23.2 3 3 k (by unfold AR; omega)).trans (hto k hk)
    have hk3 : gI m3 1 1 10 = iZ key := (F23.2 1 1 10 (by unfold AR; omega)).trans hk
    refine And.intro trivial ?_
    rw [e8, L7, iZ_mul, iZ_add]
    generalize est : 7 * o + letT tp t = st at hS
    have rst : 0 ≤ st ∧ st < 63 := by omega
    have fin : ∀ (m4 : Mem) (told' : Nat → Int), told' = (if sgn (nx tp n t) = 2 then told else upq told st.toNat (sgn (nx tp n t))) → RS m4 tp n t3 → CTo m4 told' → TDOK told' → gI m4 1 1 10 = iZ key → Fr AP m m4 → smE true 18 93 [some (vR (some (1, 1))), some (vI (iZ (letT tp t))), some (vI (iZ (told' st.toNat))), some (vI (iZ st))] [] m4 K := by
      intro m4 told' et R4 T4 D4 k4 F4
      have r4 := D4 st.toNat (by omega)
      refine wp_ok (by decide) OK_18 (cc := cd_18) rfl (stops := []) 60 _ _ _ _ ?_
      refine And.intro trivial (c_numberBy (z := st) (sign := told' st.toNat) (key := key) rfl rfl k4 (by omega) rk r4 ?_)
      refine And.intro trivial (c_pit rfl rfl ?_)
      refine And.intro (Or.inr rfl) ?_
      rw [← et] at hS
      have G : Fr AP m4 (sI m4 1 1 8 (iZ (pit (byN st (told' st.toNat) key) st))) := Fr.st (Or.inl ⟨rfl, rfl, by omega⟩)
      refine hS _ _ _ _ rfl (R4.fr (A := fun t n k => t = 1 ∧ n = 1 ∧ k = 8) (Fr.st ⟨rfl, rfl, rfl⟩) (fun n k => by omega) (fun k hk => by omega)) (fun k hk => ?_) ?_ (F4.tr G)
      · rw [gI_s, if_neg (by omega)]; exact T4 k hk
      · rw [gI_s, if_pos ⟨rfl, rfl, rfl⟩, est]
    have FA : Fr AP m m3 := F23.mono (fun t n k z => AR_AP z)
    refine wp1_ok (by decide) OK_18 (cc := cd_18) rfl (stops := [93]) (f := 60) ?_
    refine And.intro (fun w => ?_) (fun w => ?_)
    · rw [L2, iZ_eq (by constructor <;> omega) (by decide)] at w
      refine And.intro (fun u => ?_) (fun u => ?_)
      · rw [L0, iZ_lt (by constructor <;> omega) (by decide)] at u; omega
      refine And.intro (fun u => ?_) (fun u => ?_)
      · have u : nI 63 ≤ iZ st := u
        rw [iZ_nI, iZ_le (by decide) (by constructor <;> omega)] at u; omega
      refine And.intro ((iZ_in (by constructor <;> omega)).mpr (by omega)) ?_
      refine And.intro trivial ?_
      rw [iZ_clamp (by constructor <;> omega)]
      have g4 := fin (sI m3 3 3 st.toNat (iZ (sgn (nx tp n t)))) (upq told st.toNat (sgn (nx tp n t))) (by rw [if_neg w]) (R3.fr (A := fun t n k => t = 3 ∧ n = 3) (Fr.st ⟨rfl, rfl⟩) (fun n k => by omega) (fun k hk => by omega)) (fun k hk => by
        rw [gI_s]
        unfold upq
        by_cases ek : k = st.toNat
        · rw [if_pos ⟨ek, rfl, rfl⟩, if_pos ek]
        · rw [if_neg (by omega), if_neg ek]; exact hto3 k hk) (fun k hk => by
        unfold upq
        split
        · exact hs
        · exact htd k hk) (by rw [gI_s, if_neg (by omega)]; exact hk3) (FA.tr (Fr.st (Or.inr ⟨rfl, rfl⟩)))
      rw [upq_s] at g4
      exact g4
    · rw [L2, iZ_eq (by constructor <;> omega) (by decide)] at w
      refine And.intro trivial (c_toldSign (told := told) rfl (by constructor <;> omega) hto3 ?_)
      refine And.intro trivial ?_
      have e : tldN told st = told st.toNat := by unfold tldN; rw [if_pos (by omega)]
      rw [e]
      exact fin m3 told (by rw [if_pos w]) R3 hto3 htd hk3 FA
  refine And.intro (fun w => ?_) (fun w => ?_)
  · rw [L2, iZ_eq (by constructor <;> omega) (by decide)] at w
    rw [if_pos w] at eT2
    subst eT2
    exact And.intro trivial (rest m1 R1 o1.1 (F1.mono (fun t n k z => AT_AR z)))
  · rw [L2, iZ_eq (by constructor <;> omega) (by decide)] at w
    rw [if_neg w] at eT2
    subst eT2
    refine And.intro trivial (c_adv hT hn o1.1 R1 (fun m2 R2 F2 => ?_))
    exact And.intro trivial (rest m2 R2 (nx_ok hT hn o1.1).1 ((F1.tr F2).mono (fun t n k z => AT_AR z)))
end CFR
