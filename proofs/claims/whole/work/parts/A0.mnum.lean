/-! THE MODEL's reader: signs, numbers, fractions; wrong = 0, and wrong already -/
def MFt (m : Mem) (e : Int × Nat) : Prop := gI m 23 231 12 = iZ e.1 ∧ gI m 23 231 13 = iZ e.2
def MOk (m : Mem) : Prop := gI m 23 231 12 = iZ 0 ∧ gI m 23 231 13 = iZ (-1)
/-- something is wrong already -/
def MBad (m : Mem) : Prop := ∃ e : Int × Nat, MFt m e ∧ EOK e
def AWr : Nat → Nat → Nat → Prop := fun t n k => t = 23 ∧ n = 231 ∧ 11 ≤ k ∧ k ≤ 17
theorem AU_AWr {t n k : Nat} (h : AU t n k) : AWr t n k := ⟨h.1, h.2.1, by have := h.2.2; omega⟩
section MNUM
variable {m : Mem} {K : Option SV → Mem → Prop} {tp : Nat → Int} {n : Nat} {t : TK}
theorem MOk.fr {A : Nat → Nat → Nat → Prop} {m' : Mem} (h : MOk m) (F : Fr A m m') (h12 : ¬ A 23 231 12) (h13 : ¬ A 23 231 13) : MOk m' := ⟨(F.2 _ _ _ h12).trans h.1, (F.2 _ _ _ h13).trans h.2⟩
theorem MOk.au {m' : Mem} (h : MOk m) (F : Fr AU m m') : MOk m' := h.fr F (by unfold AU; omega) (by unfold AU; omega)
theorem bad_ne {e : Int × Nat} (h : MFt m e) (he : EOK e) : ¬ gI m 23 231 12 = 0 := by
  intro z
  rw [h.1, L0, iZ_eq (by have := he.1; have := he.2; constructor <;> omega) (by decide)] at z
  have := he.1; omega
theorem MBad.ne (h : MBad m) : ¬ gI m 23 231 12 = 0 := by
  obtain ⟨e, h1, h2⟩ := h; exact bad_ne h1 h2
theorem M_fails {a : Int} {p : Nat} {x y : Int32} (hx : x = iZ a) (hy : y = iZ p) (h0 : MOk m) (h : ∀ m', MFt m' (a, p) → Fr (fun t n k => t = 23 ∧ n = 231 ∧ (k = 12 ∨ k = 13)) m m' → K none m') : smC true 140 [vR (some (23, 231)), vI x, vI y] m K := by
  subst hx; subst hy
  refine smC_wp [some (vR (some (23, 231))), some (vI (iZ a)), some (vI (iZ p))] cd_140 [] 30 OK_140 (by decide) rfl rfl (Nat.le_of_ble_eq_true rfl) ?_
  refine And.intro (fun _ => ?_) (fun z => absurd h0.1 z)
  refine And.intro trivial (h _ ⟨?_, ?_⟩ ((Fr.st ⟨rfl, rfl, Or.inl rfl⟩).tr (Fr.st ⟨rfl, rfl, Or.inr rfl⟩)))
  · simp only [gI_s]; simp
  · simp only [gI_s]; simp
theorem M_fails1 {x y : Int32} (h0 : MBad m) (h : K none m) : smC true 140 [vR (some (23, 231)), vI x, vI y] m K := by
  refine smC_wp [some (vR (some (23, 231))), some (vI x), some (vI y)] cd_140 [] 30 OK_140 (by decide) rfl rfl (Nat.le_of_ble_eq_true rfl) ?_
  refine And.intro (fun z => absurd z h0.ne) (fun _ => ?_)
  exact And.intro trivial h
theorem M_isSign {c : Int} {x : Int32} (hx : x = iZ c) (rc : 0 ≤ c ∧ c ≤ 255) (h0 : MOk m) (ht : TOK tp n t) (hR : MRS m tp n t) (h1 : isB c t → K (some (vI 1)) m) (h2 : ¬ isB c t → K (some (vI 0)) m) : smC true 142 [vR (some (23, 231)), vI x] m K := by
  subst hx
  have a1 := ht.1
  have a3 := ht.2.2.1
  refine smC_wp [some (vR (some (23, 231))), some (vI (iZ c))] cd_142 [] 30 OK_142 (by decide) rfl rfl (Nat.le_of_ble_eq_true rfl) ?_
  refine And.intro (fun z => absurd h0.1 z) (fun _ => ?_)
  refine And.intro (fun z => ?_) (fun z => ?_)
  · rw [hR.2.1, L3, iZ_eq (by constructor <;> omega) (by decide)] at z
    exact And.intro (Or.inl rfl) (h2 (fun w => z w.1))
  rw [hR.2.1, L3, iZ_eq (by constructor <;> omega) (by decide)] at z
  refine And.intro (fun y => ?_) (fun y => ?_)
  · rw [hR.2.2.2.1, iZ_eq (by constructor <;> omega) (by constructor <;> omega)] at y
    exact And.intro (Or.inl rfl) (h2 (fun w => y w.2))
  · rw [hR.2.2.2.1, iZ_eq (by constructor <;> omega) (by constructor <;> omega)] at y
    exact And.intro (Or.inr rfl) (h1 ⟨z, y⟩)
theorem M_isSign1 {x : Int32} (h0 : MBad m) (h : K (some (vI 0)) m) : smC true 142 [vR (some (23, 231)), vI x] m K := by
  refine smC_wp [some (vR (some (23, 231))), some (vI x)] cd_142 [] 30 OK_142 (by decide) rfl rfl (Nat.le_of_ble_eq_true rfl) ?_
  refine And.intro (fun _ => ?_) (fun z => absurd z h0.ne)
  exact And.intro (Or.inl rfl) h
theorem M_nx (hT : TPOK tp) (hn : n ≤ 800) (ht : TOK tp n t) (hR : MRS m tp n t) (h : ∀ m', MRS m' tp n (nx tp n t) → Fr AU m m' → K none m') : smC true 136 [vR (some (23, 231))] m K :=
  M_goes hR.2.2.2.2.1 ht.2.1.2 hn hT hR.1 (fun m' h1 h2 F => h m' ⟨h1, h2⟩ F)
theorem M_passesSign {c : Int} {x : Int32} (hx : x = iZ c) (rc : 0 ≤ c ∧ c ≤ 255) (h0 : MOk m) (hT : TPOK tp) (hn : n ≤ 800) (ht : TOK tp n t) (hR : MRS m tp n t) (h1 : ∀ m', isB c t → MRS m' tp n (nx tp n t) → Fr AU m m' → K (some (vI 1)) m') (h2 : ¬ isB c t → K (some (vI 0)) m) : smC true 141 [vR (some (23, 231)), vI x] m K := by
  refine smC_wp [some (vR (some (23, 231))), some (vI x)] cd_141 [] 30 OK_141 (by decide) rfl rfl (Nat.le_of_ble_eq_true rfl) ?_
  refine And.intro trivial (M_isSign hx rc h0 ht hR (fun w => ?_) (fun w => ?_))
  · refine And.intro (fun _ => ?_) (fun z => absurd z (by decide))
    refine And.intro trivial (M_nx hT hn ht hR (fun m1 R1 F1 => ?_))
    exact And.intro (Or.inr rfl) (h1 m1 w R1 F1)
  · refine And.intro (fun z => absurd rfl z) (fun _ => ?_)
    exact And.intro (Or.inl rfl) (h2 w)
theorem M_passesSign1 {x : Int32} (h0 : MBad m) (h : K (some (vI 0)) m) : smC true 141 [vR (some (23, 231)), vI x] m K := by
  refine smC_wp [some (vR (some (23, 231))), some (vI x)] cd_141 [] 30 OK_141 (by decide) rfl rfl (Nat.le_of_ble_eq_true rfl) ?_
  refine And.intro trivial (M_isSign1 h0 ?_)
  refine And.intro (fun z => absurd rfl z) (fun _ => ?_)
  exact And.intro (Or.inl rfl) h
theorem M_must {c : Int} {x : Int32} (hx : x = iZ c) (rc : 0 ≤ c ∧ c ≤ 255) (h0 : MOk m) (hT : TPOK tp) (hn : n ≤ 800) (ht : TOK tp n t) (hR : MRS m tp n t) (h1 : ∀ m', isB c t → MRS m' tp n (nx tp n t) → MOk m' → Fr AWr m m' → K none m') (h2 : ∀ m', ¬ isB c t → MFt m' (1, t.2.1) → Fr AWr m m' → K none m') : smC true 144 [vR (some (23, 231)), vI x] m K := by
  refine smC_wp [some (vR (some (23, 231))), some (vI x)] cd_144 [] 30 OK_144 (by decide) rfl rfl (Nat.le_of_ble_eq_true rfl) ?_
  refine And.intro trivial (M_passesSign hx rc h0 hT hn ht hR (fun m1 w R1 F1 => ?_) (fun w => ?_))
  · refine And.intro (fun _ => ?_) (fun z => absurd z (by decide))
    exact And.intro trivial (h1 m1 w R1 (h0.au F1) (F1.mono (fun t n k z => AU_AWr z)))
  · refine And.intro (fun z => absurd rfl z) (fun _ => ?_)
    refine And.intro trivial (M_fails (a := 1) (p := t.2.1) rfl hR.2.2.1 h0 (fun m1 f1 F1 => ?_))
    exact And.intro trivial (h2 m1 w f1 (F1.mono (fun t n k z => ⟨z.1, z.2.1, by omega⟩)))
theorem M_must1 {x : Int32} (h0 : MBad m) (h : K none m) : smC true 144 [vR (some (23, 231)), vI x] m K := by
  refine smC_wp [some (vR (some (23, 231))), some (vI x)] cd_144 [] 30 OK_144 (by decide) rfl rfl (Nat.le_of_ble_eq_true rfl) ?_
  refine And.intro trivial (M_passesSign1 h0 ?_)
  refine And.intro (fun z => absurd rfl z) (fun _ => ?_)
  refine And.intro trivial (M_fails1 h0 ?_)
  exact And.intro trivial h
theorem M_number {lo hi : Int} {x y : Int32} (hx : x = iZ lo) (hy : y = iZ hi) (rlo : 0 ≤ lo ∧ lo ≤ 1000) (rhi : 0 ≤ hi ∧ hi ≤ 1000) (h0 : MOk m) (hT : TPOK tp) (hn : n ≤ 800) (ht : TOK tp n t) (hR : MRS m tp n t)
    (hF : ∀ m' e w, pNum tp n lo hi t = .inl e → MFt m' e → Fr AWr m m' → K (some (vI w)) m') (hS : ∀ m' v t', pNum tp n lo hi t = .inr (v, t') → MRS m' tp n t' → MOk m' → Fr AWr m m' → K (some (vI (iZ v))) m') : smC true 143 [vR (some (23, 231)), vI x, vI y] m K := by
  subst hx; subst hy
  obtain ⟨_, e14, e15, e17, e11, e16⟩ := id hR
  have a1 := ht.1
  have a2 := ht.2.1
  have a3 := ht.2.2.1
  unfold pNum at hF hS
  have bad : ∀ (a : Int) (m1 : Mem), (1 ≤ a ∧ a ≤ 3) → MFt m1 (a, t.2.1) → (∀ w, K (some (vI w)) m1) → smE true 143 52 [some (vR (some (23, 231))), some (vI (iZ lo)), some (vI (iZ hi)), none] [] m1 K := by
    intro a m1 ra f1 hk
    refine wp_ok (by decide) OK_143 (cc := cd_143) rfl (stops := []) 30 _ _ _ _ ?_
    refine And.intro (fun _ => ?_) (fun z => absurd z (bad_ne f1 ⟨ra.1, ra.2⟩))
    exact And.intro trivial (hk _)
  have two : t.1 = 2 → (3 < t.2.2.2 - t.2.1 ∨ t.2.2.1 < lo ∨ hi < t.2.2.1) → smE true 143 43 [some (vR (some (23, 231))), some (vI (iZ lo)), some (vI (iZ hi)), none] [] m K := by
    intro z w
    rw [if_neg (by omega), if_pos w] at hF
    refine wp_ok (by decide) OK_143 (cc := cd_143) rfl (stops := [52]) 30 _ _ _ _ ?_
    refine And.intro trivial (M_fails (a := 2) (p := t.2.1) rfl e15 h0 (fun m1 f1 F1 => ?_))
    exact And.intro trivial (bad 2 m1 (by decide) f1 (fun v => hF m1 _ v rfl f1 (F1.mono (fun t n k z => ⟨z.1, z.2.1, by omega⟩))))
  refine smC_wp [some (vR (some (23, 231))), some (vI (iZ lo)), some (vI (iZ hi)), none] cd_143 [43, 52] 60 OK_143 (by decide) rfl rfl (Nat.le_of_ble_eq_true rfl) ?_
  refine And.intro (fun z => ?_) (fun z => ?_)
  rotate_left
  · rw [e14, L2, iZ_eq (by constructor <;> omega) (by decide)] at z
    rw [if_pos z] at hF
    refine And.intro trivial (M_fails (a := 1) (p := t.2.1) rfl e15 h0 (fun m1 f1 F1 => ?_))
    exact And.intro trivial (bad 1 m1 (by decide) f1 (fun v => hF m1 _ v rfl f1 (F1.mono (fun t n k z => ⟨z.1, z.2.1, by omega⟩))))
  rw [e14, L2, iZ_eq (by constructor <;> omega) (by decide)] at z
  refine And.intro (fun y => ?_) (fun y => ?_)
  · rw [e16, L3, iZ_lt (by decide) (by constructor <;> omega)] at y
    exact And.intro trivial (two z (by omega))
  rw [e16, L3, iZ_lt (by decide) (by constructor <;> omega)] at y
  refine And.intro trivial (M_isIn (v := t.2.2.1) (lo := lo) (hi := hi) (by rw [e17]; exact iZ_iL (by constructor <;> omega)) (iZ_iL (by constructor <;> omega)) (iZ_iL (by constructor <;> omega)) (by constructor <;> omega) (by constructor <;> omega) (by constructor <;> omega) (fun w => ?_) (fun w => ?_))
  · rw [if_neg (by omega), if_neg (by omega)] at hS
    refine And.intro (fun _ => ?_) (fun u => absurd u (by decide))
    refine And.intro trivial ?_
    refine wp1_ok (by decide) OK_143 (cc := cd_143) rfl (stops := []) (f := 30) ?_
    refine And.intro (fun u => absurd h0.1 u) (fun _ => ?_)
    refine And.intro trivial (M_nx hT hn ht hR (fun m1 R1 F1 => ?_))
    refine And.intro trivial ?_
    rw [e17]
    exact hS m1 _ _ rfl R1 (h0.au F1) (F1.mono (fun t n k z => AU_AWr z))
  · refine And.intro (fun u => absurd rfl u) (fun _ => ?_)
    exact And.intro trivial (two z (by omega))
theorem M_number1 {x y : Int32} (h0 : MBad m) (h : ∀ w, K (some (vI w)) m) : smC true 143 [vR (some (23, 231)), vI x, vI y] m K := by
  have bad : smE true 143 52 [some (vR (some (23, 231))), some (vI x), some (vI y), none] [] m K := by
    refine wp_ok (by decide) OK_143 (cc := cd_143) rfl (stops := []) 30 _ _ _ _ ?_
    refine And.intro (fun _ => ?_) (fun z => absurd z h0.ne)
    exact And.intro trivial (h _)
  have two : smE true 143 43 [some (vR (some (23, 231))), some (vI x), some (vI y), none] [] m K := by
    refine wp_ok (by decide) OK_143 (cc := cd_143) rfl (stops := [52]) 30 _ _ _ _ ?_
    exact And.intro trivial (M_fails1 h0 (And.intro trivial bad))
  refine smC_wp [some (vR (some (23, 231))), some (vI x), some (vI y), none] cd_143 [43, 52] 60 OK_143 (by decide) rfl rfl (Nat.le_of_ble_eq_true rfl) ?_
  refine And.intro (fun _ => ?_) (fun _ => And.intro trivial (M_fails1 h0 (And.intro trivial bad)))
  refine And.intro (fun _ => And.intro trivial two) (fun _ => ?_)
  have as : ∀ v : Int32, v.toInt64 = iL v.toInt := fun v => by
    conv => lhs; rw [iZ_as v]
    exact iZ_iL (iZ_rng v)
  have r64 : ∀ v : Int32, R64 v.toInt := fun v => by have := iZ_rng v; unfold R32 at this; constructor <;> omega
  refine And.intro trivial (M_isIn (as _) (as _) (as _) (r64 _) (r64 _) (r64 _) (fun _ => ?_) (fun _ => ?_))
  · refine And.intro (fun _ => ?_) (fun u => absurd u (by decide))
    exact And.intro trivial bad
  · refine And.intro (fun u => absurd rfl u) (fun _ => ?_)
    exact And.intro trivial two
end MNUM
