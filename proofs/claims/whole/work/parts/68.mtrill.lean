/-! THE MODEL: fits and trills -/
section MTRI
variable {m0 m : Mem} {K : Option SV → Mem → Prop} {D : Dt} {tm : Nat → Int} {i : Nat} {s : WS} {lf a T : Int} {b : Bool} {P : Int → Int × Int}
theorem M_fit {h0 : Int} {bu : Bool} {x y : Int32} (hx : x = iZ (3 * h0)) (hy : y = if bu then 1 else 0) (hT : 8 ≤ T ∧ T ≤ 2000) (e45 : gI m 23 231 45 = iZ (3 * T)) (rh : -1000000 ≤ h0 ∧ h0 ≤ 1000000) (h : K (some (vI (iZ (fitN T h0 bu)))) m) : smC true 202 [vR (some (23, 231)), vI x, vI y] m K := by
  subst hx; subst hy
  have hF := fitF_rng (T := T) (t := h0) (by omega)
  have last : ∀ g : Int, g = fitG (fitF T h0) bu → smE true 202 46 [some (vR (some (23, 231))), some (vI (iZ (3 * h0))), some (vI (if bu then 1 else 0)), some (vI (iZ g))] [] m K := by
    intro g eg
    unfold fitN at h
    rw [← eg] at h
    have rg : -1 ≤ g ∧ g ≤ 64 := by rw [eg]; unfold fitG; split <;> omega
    refine wp_ok (by decide) OK_202 (cc := cd_202) rfl (stops := []) 30 _ _ _ _ ?_
    cases bu with
    | true =>
      refine And.intro (fun z => absurd z (by decide)) (fun _ => ?_)
      refine And.intro (fun z => ?_) (fun z => ?_)
      · rw [L3, iZ_le (by decide) (by constructor <;> omega)] at z
        rw [if_pos (by simpa using z)] at h
        exact And.intro trivial h
      · rw [L3, iZ_le (by decide) (by constructor <;> omega)] at z
        rw [if_neg (by simpa using z)] at h
        exact And.intro trivial h
    | false =>
      refine And.intro (fun _ => ?_) (fun z => absurd rfl z)
      refine And.intro (fun z => ?_) (fun z => ?_)
      · rw [L4, iZ_le (by decide) (by constructor <;> omega)] at z
        rw [if_pos (by simpa using z)] at h
        exact And.intro trivial h
      · rw [L4, iZ_le (by decide) (by constructor <;> omega)] at z
        rw [if_neg (by simpa using z)] at h
        exact And.intro trivial h
  have mid : smE true 202 28 [some (vR (some (23, 231))), some (vI (iZ (3 * h0))), some (vI (if bu then 1 else 0)), some (vI (iZ (fitF T h0)))] [] m K := by
    refine wp_ok (by decide) OK_202 (cc := cd_202) rfl (stops := [46]) 30 _ _ _ _ ?_
    refine And.intro (by decide) ?_
    cases bu with
    | true =>
      refine And.intro (fun z => absurd z (by decide)) (fun _ => ?_)
      refine And.intro (fun z => ?_) (fun z => ?_)
      · rw [L2, L0, iZ_rem (by constructor <;> omega) (by decide) (by omega) (by decide), iZ_eq (by constructor <;> omega) (by decide)] at z
        refine And.intro trivial (last _ ?_)
        unfold fitG; rw [if_pos (by simp; omega)]
      · rw [L2, L0, iZ_rem (by constructor <;> omega) (by decide) (by omega) (by decide), iZ_eq (by constructor <;> omega) (by decide)] at z
        refine And.intro trivial ?_
        rw [LM1, iZ_add]
        refine last _ ?_
        unfold fitG; rw [if_neg (by simp; omega)]; omega
    | false =>
      refine And.intro (fun _ => ?_) (fun z => absurd rfl z)
      refine And.intro (fun z => ?_) (fun z => ?_)
      · rw [L2, L1, iZ_rem (by constructor <;> omega) (by decide) (by omega) (by decide), iZ_eq (by constructor <;> omega) (by decide)] at z
        refine And.intro trivial (last _ ?_)
        unfold fitG; rw [if_pos (by simp; omega)]
      · rw [L2, L1, iZ_rem (by constructor <;> omega) (by decide) (by omega) (by decide), iZ_eq (by constructor <;> omega) (by decide)] at z
        refine And.intro trivial ?_
        rw [LM1, iZ_add]
        refine last _ ?_
        unfold fitG; rw [if_neg (by simp; omega)]; omega
  have top : ∀ n : Int, 0 ≤ n ∧ n ≤ 1000000 → min 64 n = fitF T h0 → smE true 202 14 [some (vR (some (23, 231))), some (vI (iZ (3 * h0))), some (vI (if bu then 1 else 0)), none] [vI (iZ n)] m K := by
    intro n rn e
    refine wp_ok (by decide) OK_202 (cc := cd_202) rfl (stops := [28]) 30 _ _ _ _ ?_
    refine And.intro (fun z => ?_) (fun z => ?_)
    · rw [L64, iZ_le (by constructor <;> omega) (by decide)] at z
      rw [← e, show min 64 n = n by omega] at mid
      exact And.intro trivial mid
    · rw [L64, iZ_le (by constructor <;> omega) (by decide)] at z
      rw [← e, show min 64 n = 64 by omega] at mid
      exact And.intro trivial mid
  refine smC_wp [some (vR (some (23, 231))), some (vI (iZ (3 * h0))), some (vI (if bu then 1 else 0)), none] cd_202 [14] 40 OK_202 (by decide) rfl rfl (Nat.le_of_ble_eq_true rfl) ?_
  refine And.intro (fun z => ?_) (fun z => ?_)
  · rw [L0, iZ_le (by decide) (by constructor <;> omega)] at z
    refine And.intro (fun q => ?_) ?_
    · rw [e45, L0, iZ_eq (by constructor <;> omega) (by decide)] at q
      omega
    refine And.intro trivial ?_
    rw [e45, iZ_div (by constructor <;> omega) (by constructor <;> omega) (by omega) (by omega), Int.mul_ediv_mul_of_pos (a := 3) h0 T (by decide)]
    have r1 : 0 ≤ h0 / T := Int.ediv_nonneg (by omega) (by omega)
    have r2 : h0 / T ≤ h0 := Int.ediv_le_self _ (by omega)
    refine top _ (by omega) ?_
    unfold fitF
    by_cases hz : 0 < h0
    · rw [if_pos hz]
    · have : h0 = 0 := by omega
      rw [if_neg hz, this, Int.zero_ediv]; rfl
  · rw [L0, iZ_le (by decide) (by constructor <;> omega)] at z
    refine And.intro trivial (top 0 (by omega) ?_)
    unfold fitF
    rw [if_neg (by omega)]; rfl
theorem M_nextAbove (hE : ME m0 i tm D) (eP : Pk (tm 3) (D.2.1 i) = P) (hC : MC m0 m i s lf a b) (h1 : (∃ z, nxD 0 D i = some z ∧ z.2.1 = (P 1).1) → K (some (vI 1)) m) (h0 : ¬ (∃ z, nxD 0 D i = some z ∧ z.2.1 = (P 1).1) → K (some (vI 0)) m) : smC true 201 [vR (some (23, 231))] m K := by
  subst eP
  obtain ⟨he, ⟨htm, hD, hi, hn1⟩, e44, e45, e46, e47, e48⟩ := id hE
  have h48 := hD.1
  have hok := (Pk_ok (hold := tm 3) (hD.2.1 i hi) hn1).1.2.1
  have E := MC.e3 hE hC
  have r47 : gI m 23 231 47 = iZ (Pk (tm 3) (D.2.1 i) 1).1 := (hC.rd (by omega)).trans e47
  have en : gI m 23 231 44 + 1 = iZ ((i + 1 : Nat) : Int) := by rw [rn hE hC, L1, iZ_add]; congr 1
  refine smC_wp [some (vR (some (23, 231)))] cd_201 [] 40 OK_201 (by decide) rfl rfl (Nat.le_of_ble_eq_true rfl) ?_
  refine And.intro trivial (M_isNote en (by constructor <;> omega) hD E.2.2 (fun z => ?_) (fun z => ?_))
  · refine And.intro (fun w => absurd w (by decide)) (fun _ => ?_)
    have z2 : i + 1 < D.1 ∧ D.2.1 (i + 1) 0 = 1 := ⟨by omega, by have := z.2.2; rwa [Int.toNat_natCast] at this⟩
    have hp := (hD.2.1 (i + 1) z2.1).pit z2.2
    have en2 : nxD 0 D i = some (0, D.2.1 (i + 1) 3, nStep (D.2.1 (i + 1))) := by unfold nxD; rw [if_pos z2]
    refine And.intro trivial (M_of (i := i + 1) (w := 3) en rfl hD E.2.2 z2.1 (by decide) ?_)
    rw [mw_id (by decide) (by decide)]
    refine And.intro (fun w => ?_) (fun w => ?_)
    · rw [r47, iZ_eq (by constructor <;> omega) (by constructor <;> omega)] at w
      exact And.intro (Or.inl rfl) (h0 (by rintro ⟨q, q1, q2⟩; rw [en2] at q1; cases q1; exact w q2))
    · rw [r47, iZ_eq (by constructor <;> omega) (by constructor <;> omega)] at w
      exact And.intro (Or.inr rfl) (h1 ⟨_, en2, w⟩)
  · refine And.intro (fun _ => ?_) (fun w => absurd rfl w)
    refine And.intro (Or.inl rfl) (h0 ?_)
    rintro ⟨q, q1, q2⟩
    unfold nxD at q1
    by_cases hc : i + 1 < D.1 ∧ D.2.1 (i + 1) 0 = 1
    · exact z ⟨by omega, by omega, by rw [Int.toNat_natCast]; exact hc.2⟩
    · rw [if_neg hc] at q1; cases q1
/-- the end of trills: n tones, then the afterbeat -/
theorem M_tr_end {bu b' : Bool} {n l' : Int} {x2 : Option SV} (hE : ME m0 i tm D) (eT : wT tm (tm 5) (D.2.1 i) = T) (eP : Pk (tm 3) (D.2.1 i) = P) (rn3 : 3 ≤ n ∧ n ≤ 64) (hnT : n * T ≤ l' ∧ l' ≤ 1000000) (hC : MC m0 m i s l' a b') (hlen : s.1.length + 66 ≤ 3600)
    (h : ∀ m', MC m0 m' i (apN i (trQ P T bu n l' ++ (if b' then [(2, P 2, T), (0, P 0, T)] else [])) s) l' a b' → K (some (vI 1)) m') :
    smE true 200 120 [some (vR (some (23, 231))), some (vI (if bu then 1 else 0)), x2, some (vI (iZ n))] [] m K := by
  have hT := hE.Tr
  rw [eT] at hT
  have e1 : ((n - 1).toNat : Int) = n - 1 := by omega
  have hn1 : iZ n - 1 = iZ (((n - 1).toNat : Nat) : Int) := by rw [e1, L1, iZ_sub]
  have mT : (((n - 1).toNat : Nat) : Int) * T < l' := by rw [e1, Int.sub_mul]; omega
  have eq : trQ P T bu n l' = altG P T (if bu then 0 else 1) (if bu then 1 else 0) (n - 1).toNat ++ [(0, P 0, l' - ((n - 1).toNat : Nat) * T)] := by
    unfold trQ
    rw [e1, altG_Q P T _ _ (if bu then 1 else 0) (by cases bu <;> rfl)]
  have fin : ∀ m1, MC m0 m1 i (apN i (trQ P T bu n l') s) l' a b' → smE true 200 145 [some (vR (some (23, 231))), some (vI (if bu then 1 else 0)), x2, some (vI (iZ n))] [] m1 K := by
    intro m1 C1
    have r45 : gI m1 23 231 45 = iZ (3 * T) := by rw [rt hE C1, eT]
    have hl1 : (apN i (trQ P T bu n l') s).1.length ≤ s.1.length + 64 := by
      rw [apN_len, eq]
      simp only [List.length_append, List.length_cons, List.length_nil]
      have : (altG P T (if bu then 0 else 1) (if bu then 1 else 0) (n - 1).toNat).length = (n - 1).toNat := by
        rw [← altG_Q P T _ _ (if bu then 1 else 0) (by cases bu <;> rfl), altQ_len]
      omega
    refine wp_ok (by decide) OK_200 (cc := cd_200) rfl (stops := []) 40 _ _ _ _ ?_
    have eb := C1.2.1.2.2
    cases b' with
    | false =>
      refine And.intro (fun _ => ?_) (fun z => absurd eb z)
      refine And.intro (Or.inr rfl) (h m1 ?_)
      simp only [if_false, List.append_nil, Bool.false_eq_true]
      exact C1
    | true =>
      refine And.intro (fun z => absurd (eb.symm.trans z) (by decide)) (fun _ => ?_)
      refine And.intro trivial (M_puts (kd := 2) (l := T) rfl r45 (by omega) hE C1 (by omega) (by omega) (fun m2 C2 => ?_))
      refine And.intro trivial (M_puts (kd := 0) (l := T) rfl (by rw [rt hE C2, eT]) (by omega) hE C2 (by omega) (by show (apN i (trQ P T bu n l') s).1.length + 1 < 3600; omega) (fun m3 C3 => ?_))
      refine And.intro (Or.inr rfl) (h m3 ?_)
      rw [eP] at C3
      simp only [if_true]
      rw [apN_app]
      exact C3
  have tu : ∀ {Q : Option SV → Mem → Prop} {y1 y2 : Int32}, y1 = iZ (if bu then 0 else 1) → y2 = iZ (if bu then 1 else 0) → (∀ m', MC m0 m' i (apN i (trQ P T bu n l') s) l' a b' → Q none m') → smC true 203 [vR (some (23, 231)), vI y1, vI y2, vI (iZ n - 1)] m Q := by
    intro Q y1 y2 hy1 hy2 hQ
    refine M_turns (n := (n - 1).toNat) hy1 hy2 hn1 (by cases bu <;> simp) (by cases bu <;> simp) hE eT eP (by omega) ⟨mT, hnT.2⟩ hC (by omega) (fun m' C' => hQ m' ?_)
    rw [eq]; exact C'
  refine wp_ok (by decide) OK_200 (cc := cd_200) rfl (stops := [145]) 40 _ _ _ _ ?_
  cases bu with
  | false =>
    refine And.intro (fun _ => ?_) (fun z => absurd rfl z)
    refine And.intro (fun _ => ?_) (fun z => absurd rfl z)
    exact And.intro trivial (tu rfl rfl (fun m1 C1 => And.intro trivial (fin m1 C1)))
  | true =>
    refine And.intro (fun z => absurd z (by decide)) (fun _ => ?_)
    refine And.intro (fun z => absurd z (by decide)) (fun _ => ?_)
    exact And.intro trivial (tu rfl rfl (fun m1 C1 => And.intro trivial (fin m1 C1)))
end MTRI
