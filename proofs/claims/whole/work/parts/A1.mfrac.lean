/-! THE MODEL's reader: fractions, letters, signs -/
section MFRAC
variable {m : Mem} {K : Option SV → Mem → Prop} {tp : Nat → Int} {n : Nat} {t : TK}
theorem MBad.of {e : Int × Nat} (h : MFt m e) (he : EOK e) : MBad m := ⟨e, h, he⟩
/-- power(most), then number(1, most) -/
theorem M_power {ml : Int} {y : Int32} (hy : y = iZ ml) (rml : 1 ≤ ml ∧ ml ≤ 32) (h0 : MOk m) (hT : TPOK tp) (hn : n ≤ 800) (ht : TOK tp n t) (hR : MRS m tp n t)
    (hP : ∀ m' w, t.1 = 2 ∧ ¬ pw2 t.2.2.1 = true → MFt m' (2, t.2.1) → Fr AWr m m' → K (some (vI w)) m')
    (hF : ∀ m' e w, ¬ (t.1 = 2 ∧ ¬ pw2 t.2.2.1 = true) → pNum tp n 1 ml t = .inl e → MFt m' e → Fr AWr m m' → K (some (vI w)) m') (hS : ∀ m' v t', ¬ (t.1 = 2 ∧ ¬ pw2 t.2.2.1 = true) → pNum tp n 1 ml t = .inr (v, t') → MRS m' tp n t' → MOk m' → Fr AWr m m' → K (some (vI (iZ v))) m') : smC true 145 [vR (some (23, 231)), vI y] m K := by
  subst hy
  have a1 := ht.1
  have a3 := ht.2.2.1
  have good : ¬ (t.1 = 2 ∧ ¬ pw2 t.2.2.1 = true) → smE true 145 38 [some (vR (some (23, 231))), some (vI (iZ ml))] [] m K := by
    intro hg
    refine wp_ok (by decide) OK_145 (cc := cd_145) rfl (stops := []) 30 _ _ _ _ ?_
    refine And.intro trivial (M_number (lo := 1) (hi := ml) rfl rfl (by decide) (by omega) h0 hT hn ht hR (fun m1 e w h1 f1 F1 => ?_) (fun m1 v t' h1 R1 o1 F1 => ?_))
    · exact And.intro trivial (hF m1 e w hg h1 f1 F1)
    · exact And.intro trivial (hS m1 v t' hg h1 R1 o1 F1)
  have bad : t.1 = 2 → ¬ pw2 t.2.2.1 = true → smE true 145 29 [some (vR (some (23, 231))), some (vI (iZ ml))] [] m K := by
    intro z w
    refine wp_ok (by decide) OK_145 (cc := cd_145) rfl (stops := []) 30 _ _ _ _ ?_
    refine And.intro trivial (M_fails (a := 2) (p := t.2.1) rfl hR.2.2.1 h0 (fun m1 f1 F1 => ?_))
    refine And.intro trivial (M_number1 (MBad.of f1 (ek2 _)) (fun v => ?_))
    exact And.intro trivial (hP m1 v ⟨z, w⟩ f1 (F1.mono (fun t n k z => ⟨z.1, z.2.1, by omega⟩)))
  refine smC_wp [some (vR (some (23, 231))), some (vI (iZ ml))] cd_145 [29, 38] 30 OK_145 (by decide) rfl rfl (Nat.le_of_ble_eq_true rfl) ?_
  refine And.intro (fun z => ?_) (fun z => ?_)
  · rw [hR.2.1, L2, iZ_eq (by constructor <;> omega) (by decide)] at z
    exact And.intro trivial (good (fun w => z w.1))
  rw [hR.2.1, L2, iZ_eq (by constructor <;> omega) (by decide)] at z
  refine And.intro (fun y => ?_) (fun y => ?_)
  · rw [hR.2.2.2.1, L0, iZ_eq (by constructor <;> omega) (by decide)] at y
    refine And.intro trivial (bad z ?_)
    unfold pw2; rw [y]; simp
  rw [hR.2.2.2.1, L0, iZ_eq (by constructor <;> omega) (by decide)] at y
  refine And.intro (fun w => ?_) (fun w => ?_)
  · rw [hR.2.2.2.1] at w
    refine And.intro trivial (good (fun u => u.2 ?_))
    unfold pw2; simp; exact ⟨by omega, w⟩
  · rw [hR.2.2.2.1] at w
    refine And.intro trivial (bad z ?_)
    unfold pw2; simp; exact fun _ => w
theorem M_power1 {y : Int32} (h0 : MBad m) (h : ∀ w, K (some (vI w)) m) : smC true 145 [vR (some (23, 231)), vI y] m K := by
  have good : smE true 145 38 [some (vR (some (23, 231))), some (vI y)] [] m K := by
    refine wp_ok (by decide) OK_145 (cc := cd_145) rfl (stops := []) 30 _ _ _ _ ?_
    exact And.intro trivial (M_number1 h0 (fun w => And.intro trivial (h w)))
  have bad : smE true 145 29 [some (vR (some (23, 231))), some (vI y)] [] m K := by
    refine wp_ok (by decide) OK_145 (cc := cd_145) rfl (stops := [38]) 30 _ _ _ _ ?_
    exact And.intro trivial (M_fails1 h0 (And.intro trivial good))
  refine smC_wp [some (vR (some (23, 231))), some (vI y)] cd_145 [29, 38] 30 OK_145 (by decide) rfl rfl (Nat.le_of_ble_eq_true rfl) ?_
  refine And.intro (fun _ => And.intro trivial good) (fun _ => ?_)
  refine And.intro (fun _ => And.intro trivial bad) (fun _ => ?_)
  exact And.intro (fun _ => And.intro trivial good) (fun _ => And.intro trivial bad)
theorem M_fraction (h0 : MOk m) (hT : TPOK tp) (hn : n ≤ 800) (ht : TOK tp n t) (hR : MRS m tp n t)
    (hF : ∀ m' e w, pFrac tp n 32 32 t = .inl e → MFt m' e → Fr AWr m m' → K (some (vI w)) m') (hS : ∀ m' l t', pFrac tp n 32 32 t = .inr (l, t') → MRS m' tp n t' → MOk m' → Fr AWr m m' → K (some (vI (iZ (3 * l)))) m') : smC true 148 [vR (some (23, 231))] m K := by
  unfold pFrac at hF hS
  refine smC_wp [some (vR (some (23, 231))), none, none] cd_148 [] 60 OK_148 (by decide) rfl rfl (Nat.le_of_ble_eq_true rfl) ?_
  refine And.intro trivial (M_number (lo := 1) (hi := 32) rfl rfl (by decide) (by decide) h0 hT hn ht hR (fun m1 e w h1 f1 F1 => ?_) (fun m1 u ta h1 R1 o1 F1 => ?_))
  · have bd := MBad.of f1 (pNum_e h1)
    refine And.intro trivial (M_must1 bd ?_)
    refine And.intro trivial (M_power1 bd (fun v => ?_))
    refine And.intro (fun _ => ?_) (fun z => absurd z bd.ne)
    exact And.intro trivial (hF m1 e _ (by rw [h1]) f1 F1)
  have a1 := pNum_ok hT hn ht h1
  rw [h1] at hF hS
  simp only at hF hS
  refine And.intro trivial (M_must (c := 47) rfl (by decide) o1 hT hn a1.2.1 R1 (fun m2 w R2 o2 F2 => ?_) (fun m2 w f2 F2 => ?_))
  rotate_left
  · have w : ¬ (ta.1 = 3 ∧ ta.2.2.1 = 47) := w
    rw [if_pos w] at hF
    have bd := MBad.of f2 (ek1 _)
    refine And.intro trivial (M_power1 bd (fun v => ?_))
    refine And.intro (fun _ => ?_) (fun z => absurd z bd.ne)
    exact And.intro trivial (hF m2 _ _ rfl f2 (F1.tr F2))
  have w : ta.1 = 3 ∧ ta.2.2.1 = 47 := w
  rw [if_neg (fun q => q w)] at hF hS
  have a2 := nx_ok hT hn a1.2.1
  refine And.intro trivial (M_power (ml := 32) rfl (by decide) o2 hT hn a2.1 R2 (fun m3 v g f3 F3 => ?_) (fun m3 e v g h3 f3 F3 => ?_) (fun m3 v tb g h3 R3 o3 F3 => ?_))
  · rw [if_pos g] at hF
    refine And.intro (fun _ => ?_) (fun z => absurd z (bad_ne f3 (ek2 _)))
    exact And.intro trivial (hF m3 _ _ rfl f3 ((F1.tr F2).tr F3))
  · rw [if_neg g, h3] at hF
    refine And.intro (fun _ => ?_) (fun z => absurd z (bad_ne f3 (pNum_e h3)))
    exact And.intro trivial (hF m3 _ _ rfl f3 ((F1.tr F2).tr F3))
  · rw [if_neg g, h3] at hS
    have a3 := pNum_ok hT hn a2.1 h3
    have hp : pw2 v = true := by
      rw [a3.2.2.2.2]
      cases hq : pw2 (nx tp n ta).2.2.1 with
      | true => rfl
      | false => exact absurd ⟨a3.2.2.2.1, by rw [hq]; simp⟩ g
    have fr := frac_rng (u := u) (v := v) (by omega) (by omega) hp
    refine And.intro (fun z => absurd o3.1 z) (fun _ => ?_)
    refine And.intro (fun z => ?_) ?_
    · rw [L0, iZ_eq (by constructor <;> omega) (by decide)] at z; omega
    refine And.intro trivial ?_
    rw [L1536, iZ_div (by decide) (by constructor <;> omega) (by decide) (by omega), iZ_mul]
    have e : 1536 / v * u = 3 * (u * 512 / v) := by
      have e1 : 1536 / v = 3 * (512 / v) := by
        have hv : v = 1 ∨ v = 2 ∨ v = 4 ∨ v = 8 ∨ v = 16 ∨ v = 32 := by
          have := pw2_32 v.toNat (by omega) (by rw [Int.toNat_of_nonneg (by omega)]; exact hp)
          omega
        rcases hv with rfl | rfl | rfl | rfl | rfl | rfl <;> decide
      rw [e1, Int.mul_assoc, fr.2.2.2.1]
    rw [e]
    exact hS m3 _ _ rfl R3 o3 ((F1.tr F2).tr F3)
theorem M_fraction1 (h0 : MBad m) (h : K (some (vI 0)) m) : smC true 148 [vR (some (23, 231))] m K := by
  refine smC_wp [some (vR (some (23, 231))), none, none] cd_148 [] 60 OK_148 (by decide) rfl rfl (Nat.le_of_ble_eq_true rfl) ?_
  refine And.intro trivial (M_number1 h0 (fun w => ?_))
  refine And.intro trivial (M_must1 h0 ?_)
  refine And.intro trivial (M_power1 h0 (fun v => ?_))
  refine And.intro (fun _ => ?_) (fun z => absurd z h0.ne)
  exact And.intro trivial h
theorem M_isLetter (h0 : MOk m) (hn : n ≤ 800) (ht : TOK tp n t) (hR : MRS m tp n t) (h1 : 0 ≤ letT tp t → t.1 = 1 ∧ (97 ≤ tp t.2.1 ∧ tp t.2.1 ≤ 103) ∧ letT tp t = (tp t.2.1 - 97 + 5) % 7 → K (some (vI 1)) m) (h2 : letT tp t < 0 → K (some (vI 0)) m) : smC true 153 [vR (some (23, 231))] m K := by
  obtain ⟨⟨ct, _⟩, e14, e15, e17, e11, e16⟩ := id hR
  have a1 := ht.1
  have a2 := ht.2.1
  refine smC_wp [some (vR (some (23, 231)))] cd_153 [] 40 OK_153 (by decide) rfl rfl (Nat.le_of_ble_eq_true rfl) ?_
  refine And.intro (fun z => absurd h0.1 z) (fun _ => ?_)
  refine And.intro (fun z => ?_) (fun z => ?_)
  · rw [e14, L1, iZ_eq (by constructor <;> omega) (by decide)] at z
    exact And.intro (Or.inl rfl) (h2 (by unfold letT; rw [if_neg (fun w => z w.1)]; decide))
  rw [e14, L1, iZ_eq (by constructor <;> omega) (by decide)] at z
  refine And.intro (fun y => ?_) (fun y => ?_)
  · rw [e16, L1, iZ_eq (by constructor <;> omega) (by decide)] at y
    exact And.intro (Or.inl rfl) (h2 (by unfold letT; rw [if_neg (by omega)]; decide))
  rw [e16, L1, iZ_eq (by constructor <;> omega) (by decide)] at y
  have hb := ht.2.2.2.2 z t.2.1 (Nat.le_refl _) (by omega)
  have el : letT tp t = ltB (tp t.2.1) := by unfold letT; rw [if_pos (by omega)]
  have ev : gI m 31 239 (gI m 23 231 15).toNatClampNeg = iZ (tp t.2.1) := by
    rw [e15, iZ_clamp (by constructor <;> omega), show ((t.2.1 : Nat) : Int).toNat = t.2.1 by omega, ct _ (by omega), sg_lo (by omega)]
  refine And.intro (by rw [e15]; exact (iZ_in (by constructor <;> omega)).mpr (by omega)) ?_
  refine And.intro trivial (M_in (v := tp t.2.1) (lo := 97) (hi := 103) ev (by constructor <;> omega) (by decide) (by decide) rfl rfl (fun w => ?_) (fun w => ?_))
  · refine And.intro (fun u => absurd u (by decide)) (fun _ => ?_)
    have e2 : letT tp t = (tp t.2.1 - 97 + 5) % 7 := by rw [el]; unfold ltB; rw [if_pos w]
    exact And.intro (Or.inr rfl) (h1 (by omega) ⟨z, w, e2⟩)
  · refine And.intro (fun _ => ?_) (fun u => absurd rfl u)
    exact And.intro (Or.inl rfl) (h2 (by rw [el]; unfold ltB; rw [if_neg w]; decide))
theorem M_isLetter1 (h0 : MBad m) (h : K (some (vI 0)) m) : smC true 153 [vR (some (23, 231))] m K := by
  refine smC_wp [some (vR (some (23, 231)))] cd_153 [] 40 OK_153 (by decide) rfl rfl (Nat.le_of_ble_eq_true rfl) ?_
  refine And.intro (fun _ => ?_) (fun z => absurd z h0.ne)
  exact And.intro (Or.inl rfl) h
theorem M_readsSign (h0 : MOk m) (hT : TPOK tp) (hn : n ≤ 800) (ht : TOK tp n t) (hR : MRS m tp n t) (h : ∀ m', MRS m' tp n (if sgn t = 2 then t else nx tp n t) → Fr AU m m' → K (some (vI (iZ (sgn t)))) m') : smC true 154 [vR (some (23, 231))] m K := by
  refine smC_wp [some (vR (some (23, 231)))] cd_154 [] 40 OK_154 (by decide) rfl rfl (Nat.le_of_ble_eq_true rfl) ?_
  refine And.intro trivial (M_passesSign (c := 43) rfl (by decide) h0 hT hn ht hR (fun m1 w R1 F1 => ?_) (fun w => ?_))
  · have es : sgn t = 1 := by unfold sgn; rw [if_pos w.1, if_pos w.2]
    rw [es, if_neg (by decide)] at h
    refine And.intro (fun z => absurd z (by decide)) (fun _ => ?_)
    exact And.intro trivial (h m1 R1 F1)
  refine And.intro (fun _ => ?_) (fun z => absurd rfl z)
  refine And.intro trivial (M_passesSign (c := 45) rfl (by decide) h0 hT hn ht hR (fun m1 w2 R1 F1 => ?_) (fun w2 => ?_))
  · have es : sgn t = -1 := by unfold sgn; rw [if_pos w2.1, if_neg (fun u => w ⟨w2.1, u⟩), if_pos w2.2]
    rw [es, if_neg (by decide)] at h
    refine And.intro (fun z => absurd z (by decide)) (fun _ => ?_)
    exact And.intro trivial (h m1 R1 F1)
  refine And.intro (fun _ => ?_) (fun z => absurd rfl z)
  refine And.intro trivial (M_passesSign (c := 61) rfl (by decide) h0 hT hn ht hR (fun m1 w3 R1 F1 => ?_) (fun w3 => ?_))
  · have es : sgn t = 0 := by unfold sgn; rw [if_pos w3.1, if_neg (fun u => w ⟨w3.1, u⟩), if_neg (fun u => w2 ⟨w3.1, u⟩), if_pos w3.2]
    rw [es, if_neg (by decide)] at h
    refine And.intro (fun z => absurd z (by decide)) (fun _ => ?_)
    exact And.intro trivial (h m1 R1 F1)
  · have es : sgn t = 2 := by
      unfold sgn
      by_cases u : t.1 = 3
      · rw [if_pos u, if_neg (fun v => w ⟨u, v⟩), if_neg (fun v => w2 ⟨u, v⟩), if_neg (fun v => w3 ⟨u, v⟩)]
      · rw [if_neg u]
    rw [es, if_pos rfl] at h
    refine And.intro (fun _ => ?_) (fun z => absurd rfl z)
    exact And.intro trivial (h m hR (Fr.rf _ _))
theorem M_passes {k : Nat} {x : Int32} (hx : x = iZ k) (hk : k < 21) (h0 : MOk m) (hW : MWd m) (hT : TPOK tp) (hn : n ≤ 800) (ht : TOK tp n t) (hR : MRS m tp n t) (h1 : ∀ m', isW tp k t = true → MRS m' tp n (nx tp n t) → Fr AU m m' → K (some (vI 1)) m') (h2 : ¬ isW tp k t = true → K (some (vI 0)) m) : smC true 159 [vR (some (23, 231)), vI x] m K := by
  subst hx
  refine smC_wp [some (vR (some (23, 231))), some (vI (iZ k))] cd_159 [] 30 OK_159 (by decide) rfl rfl (Nat.le_of_ble_eq_true rfl) ?_
  refine And.intro trivial (M_word h0.1 hW hT hn ht hR (fun w hw hy hz => ?_))
  refine And.intro (fun u => ?_) (fun u => ?_)
  · rw [iZ_eq (by constructor <;> omega) (by constructor <;> omega)] at u
    have e : w = k := by omega
    subst e
    refine And.intro trivial (M_nx hT hn ht hR (fun m1 R1 F1 => ?_))
    exact And.intro (Or.inr rfl) (h1 m1 (hy hk) R1 F1)
  · rw [iZ_eq (by constructor <;> omega) (by constructor <;> omega)] at u
    refine And.intro (Or.inl rfl) (h2 (fun v => ?_))
    rcases Nat.lt_or_ge w 21 with w21 | w21
    · have := isW_one w21 hk (hy w21) v; omega
    · exact hz k (by omega) v
theorem M_passes1 {x : Int32} {k : Nat} (hx : x = iZ k) (hk : k < 21) (h0 : MBad m) (h : K (some (vI 0)) m) : smC true 159 [vR (some (23, 231)), vI x] m K := by
  subst hx
  obtain ⟨e, f1, he⟩ := id h0
  refine smC_wp [some (vR (some (23, 231))), some (vI (iZ k))] cd_159 [] 30 OK_159 (by decide) rfl rfl (Nat.le_of_ble_eq_true rfl) ?_
  refine And.intro trivial (M_word1 f1.1 (by have := he.1; omega) (by have := he.1; have := he.2; constructor <;> omega) ?_)
  refine And.intro (fun u => ?_) (fun u => ?_)
  · rw [iZ_eq (by decide) (by constructor <;> omega)] at u; omega
  · exact And.intro (Or.inl rfl) h
end MFRAC
