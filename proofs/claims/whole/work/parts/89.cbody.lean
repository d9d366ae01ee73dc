/-! THE CLASS's reader: readPrefix, readBody, readBehind -/
section CBODY
variable {m : Mem} {K : Option SV → Mem → Prop} {tp : Nat → Int} {n nn : Nat} {t : TK} {key : Int} {told : Nat → Int}
theorem AT_AG {t n k : Nat} (h : AT t n k) : AG nn t n k := AP_AG (AR_AP (AT_AR h))
theorem c_readPrefix (hT : TPOK tp) (hn : n ≤ 800) (rk : -7 ≤ key ∧ key ≤ 7) (ht : TOK tp n t) (htd : TDOK told) (hR : RS m tp n t) (hto : CTo m told) (e10 : gI m 1 1 10 = iZ key) (e7 : gI m 8 nn 7 = iZ 0)
    (hF : ∀ m' e, pPre tp n key told t = .inl e → FTd m' e → Fr (AG nn) m m' → K (some (vI 0)) m') (hS : ∀ m' pf gs told' t', pPre tp n key told t = .inr (pf, gs, told', t') → RS m' tp n t' → CTo m' told' → (∀ j, j < ngc pf → gI m' 9 (nn + 1) j = iZ (pitG (gs j))) → gI m' 8 nn 7 = iZ pf → Fr (AG nn) m m' → K (some (vI 1)) m') : smC true 26 [vR (some (1, 1)), vR (some (8, nn))] m K := by
  unfold pPre at hF hS
  have o1 := nx_ok hT hn ht
  have fto : ∀ {m1 : Mem}, Fr AT m m1 → CTo m1 told := fun F k hk => (F.2 3 3 k (by unfold AT; omega)).trans (hto k hk)
  have f10 : ∀ {m1 : Mem}, Fr AT m m1 → gI m1 1 1 10 = iZ key := fun F => (F.2 1 1 10 (by unfold AT; omega)).trans e10
  refine smC_wp [some (vR (some (1, 1))), some (vR (some (8, nn))), none, none] cd_26 [24] 60 OK_26 (by decide) rfl rfl (Nat.le_of_ble_eq_true rfl) ?_
  refine And.intro trivial (c_takeWord (c := 7) (by decide) (by decide) (by decide) hT hn ht hR (fun m1 h1 R1 F1 => ?_) (fun h1 => ?_))
  · have h1 : isW tp 8 t = true := h1
    rw [if_pos h1] at hS
    refine And.intro (fun z => absurd z (by decide)) (fun _ => ?_)
    refine And.intro (Or.inr rfl) ?_
    have G : Fr (fun t n k => t = 8) m1 (sI m1 8 nn 7 6) := Fr.st rfl
    refine hS _ _ _ _ _ rfl (R1.fr G (fun n k => by omega) (fun k hk => by omega)) (fun j hj => (G.2 _ _ _ (by omega)).trans (fto F1 j hj)) (fun j hj => by simp [ngc] at hj) ?_ ((F1.mono (fun t n k z => AT_AG z)).tr (Fr.st (Or.inr (Or.inl ⟨rfl, rfl, rfl⟩))))
    rw [gI_s, if_pos ⟨rfl, rfl, rfl⟩]; rfl
  have h1 : ¬ isW tp 8 t = true := h1
  rw [if_neg h1] at hF hS
  refine And.intro (fun _ => ?_) (fun z => absurd rfl z)
  refine And.intro trivial (c_takeWord (c := 8) (by decide) (by decide) (by decide) hT hn ht hR (fun m1 h2 R1 F1 => ?_) (fun h2 => ?_))
  · have h2 : isW tp 6 t = true := h2
    rw [if_pos h2] at hF hS
    refine And.intro trivial ?_
    refine wp1_ok (by decide) OK_26 (cc := cd_26) rfl (stops := [41]) (f := 60) ?_
    refine And.intro (fun _ => ?_) (fun z => absurd z (by decide))
    refine And.intro trivial ?_
    refine pre_loop (X := pGrs tp n key 4 0 told g0 (nx tp n t)) (m0 := m) hT hn rk (fun m' e hX f F => hF m' e (by rw [hX]) f F) (fun m' k' gs' told' t' hX R T g e F => ?_) 3 0 told g0 (nx tp n t) m1 rfl o1.1 htd (fun j hj => by omega) R1 (fto F1) (f10 F1) (fun j hj => by omega) (F1.mono (fun t n k z => AT_AG z)) rfl
    have ok := pGrs_ok (key := key) hT hn 4 0 told g0 (nx tp n t) rfl o1.1 htd (fun j hj => by omega) k' gs' told' t' hX
    refine hS m' (k' : Int) gs' told' t' (by rw [hX]) R T (fun j hj => g j ?_) e F
    unfold ngc at hj
    rw [if_neg (by omega), if_neg (by omega)] at hj
    omega
  have h2 : ¬ isW tp 6 t = true := h2
  rw [if_neg h2] at hF hS
  refine And.intro trivial ?_
  refine wp1_ok (by decide) OK_26 (cc := cd_26) rfl (stops := []) (f := 60) ?_
  refine And.intro (fun z => absurd rfl z) (fun _ => ?_)
  refine And.intro trivial (c_takeWord (c := 9) (by decide) (by decide) (by decide) hT hn ht hR (fun m1 h3 R1 F1 => ?_) (fun h3 => ?_))
  rotate_left
  · have h3 : ¬ isW tp 7 t = true := h3
    rw [if_neg h3] at hS
    refine And.intro (fun z => absurd rfl z) (fun _ => ?_)
    exact And.intro (Or.inr rfl) (hS m _ _ _ _ rfl hR hto (fun j hj => by simp [ngc] at hj) e7 (Fr.rf _ _))
  have h3 : isW tp 7 t = true := h3
  rw [if_pos h3] at hF hS
  refine And.intro (fun _ => ?_) (fun z => absurd z (by decide))
  refine And.intro trivial (c_readPitch rk (f10 F1) htd (fto F1) hT hn o1.1 R1 (fun m2 e h4 f2 F2 => ?_) (fun m2 x told1 t1 h4 R2 T2 e8 F2 => ?_))
  · refine And.intro (fun z => absurd rfl z) (fun _ => ?_)
    exact And.intro (Or.inl rfl) (hF m2 e (by rw [h4]) f2 ((F1.mono (fun t n k z => AT_AG z)).tr (F2.mono (fun t n k z => AP_AG z))))
  rw [h4] at hS
  simp only at hS
  refine And.intro (fun _ => ?_) (fun z => absurd z (by decide))
  refine And.intro (by rw [L0, iZ_in (by decide)]; decide) ?_
  refine And.intro (fun _ => ?_) (fun z => absurd rfl z)
  refine And.intro (fun _ => ?_) (fun z => absurd rfl z)
  refine And.intro (Or.inr rfl) ?_
  rw [e8]
  have G2 : Fr (fun t n k => t = 9 ∨ t = 8) m2 (sI (sI m2 9 (nn + 1) (0 : Int32).toNatClampNeg (iZ (pit x.2.2 (7 * x.2.1 + x.1)))) 8 nn 7 5) := (Fr.st (Or.inl rfl)).tr (Fr.st (Or.inr rfl))
  refine hS _ _ _ _ _ rfl (R2.fr G2 (fun n k => by omega) (fun k hk => by omega)) (fun j hj => (G2.2 _ _ _ (by omega)).trans (T2 j hj)) (fun j hj => ?_) ?_ (((F1.mono (fun t n k z => AT_AG z)).tr (F2.mono (fun t n k z => AP_AG z))).tr ((Fr.st (Or.inr (Or.inr ⟨rfl, rfl⟩))).tr (Fr.st (Or.inr (Or.inl ⟨rfl, rfl, rfl⟩)))))
  · have ej : j = 0 := by simp [ngc] at hj; omega
    subst ej
    rw [gI_s, if_neg (by omega), gI_s, if_pos ⟨rfl, rfl, rfl⟩, upq_s]; rfl
  · rw [gI_s, if_pos ⟨rfl, rfl, rfl⟩]; rfl
def AY (nn : Nat) : Nat → Nat → Nat → Prop := fun t n k => AR t n k ∨ (t = 1 ∧ n = 1 ∧ k = 14) ∨ (t = 8 ∧ n = nn ∧ (k = 9 ∨ k = 10 ∨ k = 11))
theorem AR_AY {t n k : Nat} (h : AR t n k) : AY nn t n k := Or.inl h
theorem c_tellSign {up : Bool} {sgv u d : Int} {tw : Bool} {x y : Int32} (hx : x = if up then 1 else 0) (hy : y = iZ sgv) (ru : -1 ≤ u ∧ u ≤ 2) (rd : -1 ≤ d ∧ d ≤ 2) (eu : gI m 8 nn 10 = iZ u) (ed : gI m 8 nn 11 = iZ d) (ew : gI m 1 1 14 = if tw then 1 else 0)
    (h : ∀ m', gI m' 8 nn 10 = iZ (if up then sgv else u) → gI m' 8 nn 11 = iZ (if up then d else sgv) → gI m' 1 1 14 = (if tw || decide ((if up then u else d) ≠ 2) then 1 else 0) → Fr (fun t n k => (t = 1 ∧ n = 1 ∧ k = 14) ∨ (t = 8 ∧ n = nn ∧ (k = 10 ∨ k = 11))) m m' → K none m') : smC true 29 [vR (some (1, 1)), vR (some (8, nn)), vI x, vI y] m K := by
  subst hx; subst hy
  refine smC_wp [some (vR (some (1, 1))), some (vR (some (8, nn))), some (vI (if up then 1 else 0)), some (vI (iZ sgv))] cd_29 [24] 40 OK_29 (by decide) rfl rfl (Nat.le_of_ble_eq_true rfl) ?_
  have fin : ∀ m1, gI m1 8 nn 10 = iZ u → gI m1 8 nn 11 = iZ d → gI m1 1 1 14 = (if tw || decide ((if up then u else d) ≠ 2) then 1 else 0) → Fr (fun t n k => (t = 1 ∧ n = 1 ∧ k = 14) ∨ (t = 8 ∧ n = nn ∧ (k = 10 ∨ k = 11))) m m1 → smE true 29 24 [some (vR (some (1, 1))), some (vR (some (8, nn))), some (vI (if up then 1 else 0)), some (vI (iZ sgv))] [] m1 K := by
    intro m1 a1 a2 a3 F1
    refine wp_ok (by decide) OK_29 (cc := cd_29) rfl (stops := []) 40 _ _ _ _ ?_
    cases up with
    | true =>
      refine And.intro (fun z => absurd z (by decide)) (fun _ => ?_)
      refine And.intro trivial (h _ ?_ ?_ ?_ (F1.tr (Fr.st (Or.inr ⟨rfl, rfl, by omega⟩))))
      · rw [gI_s, if_pos ⟨rfl, rfl, rfl⟩]; rfl
      · rw [gI_s, if_neg (by omega)]; exact a2
      · rw [gI_s, if_neg (by omega)]; exact a3
    | false =>
      refine And.intro (fun _ => ?_) (fun z => absurd rfl z)
      refine And.intro trivial (h _ ?_ ?_ ?_ (F1.tr (Fr.st (Or.inr ⟨rfl, rfl, by omega⟩))))
      · rw [gI_s, if_neg (by omega)]; exact a1
      · rw [gI_s, if_pos ⟨rfl, rfl, rfl⟩]; rfl
      · rw [gI_s, if_neg (by omega)]; exact a3
  have tell : (if up then u else d) ≠ 2 → True ∧ smE true 29 24 [some (vR (some (1, 1))), some (vR (some (8, nn))), some (vI (if up then 1 else 0)), some (vI (iZ sgv))] [] (sI m 1 1 14 1) K := by
    intro z
    refine And.intro trivial (fin _ ?_ ?_ ?_ (Fr.st (Or.inl ⟨rfl, rfl, rfl⟩)))
    · rw [gI_s, if_neg (by omega)]; exact eu
    · rw [gI_s, if_neg (by omega)]; exact ed
    · rw [gI_s, if_pos ⟨rfl, rfl, rfl⟩]; simp [z]
  have keep : (if up then u else d) = 2 → True ∧ smE true 29 24 [some (vR (some (1, 1))), some (vR (some (8, nn))), some (vI (if up then 1 else 0)), some (vI (iZ sgv))] [] m K := by
    intro z
    refine And.intro trivial (fin _ eu ed ?_ (Fr.rf _ _))
    rw [ew]; simp [z]
  cases up with
  | true =>
    refine And.intro (fun z => absurd z (by decide)) (fun _ => ?_)
    refine And.intro (fun z => ?_) (fun z => ?_)
    · rw [eu, L2, iZ_eq (by constructor <;> omega) (by decide)] at z
      exact keep z
    · rw [eu, L2, iZ_eq (by constructor <;> omega) (by decide)] at z
      exact And.intro (Or.inr rfl) (tell z)
  | false =>
    refine And.intro (fun _ => ?_) (fun z => absurd rfl z)
    refine And.intro (fun z => ?_) (fun z => ?_)
    · rw [ed, L2, iZ_eq (by constructor <;> omega) (by decide)] at z
      exact keep z
    · rw [ed, L2, iZ_eq (by constructor <;> omega) (by decide)] at z
      exact And.intro (Or.inr rfl) (tell z)
end CBODY
