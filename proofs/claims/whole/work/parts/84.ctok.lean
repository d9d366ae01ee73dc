/-! THE CLASS's reader: what a token is -/
def nx (tp : Nat → Int) (n : Nat) (t : TK) : TK := scan tp n t.2.2.2
def sgn (t : TK) : Int := if t.1 = 3 then (if t.2.2.1 = 43 then 1 else if t.2.2.1 = 45 then -1 else if t.2.2.1 = 61 then 0 else 2) else 2
def isB (b : Int) (t : TK) : Prop := t.1 = 3 ∧ t.2.2.1 = b
def letT (tp : Nat → Int) (t : TK) : Int := if t.1 = 1 ∧ t.2.2.2 = t.2.1 + 1 then ltB (tp t.2.1) else -1
def bodyF (tp : Nat → Int) (t : TK) : Nat → Int
  | 0 => 0
  | f + 1 => if isW tp (16 - f) t = true then 8 - f else bodyF tp t f
theorem nx_ok {tp : Nat → Int} {n : Nat} {t : TK} (hT : TPOK tp) (hn : n ≤ 800) (ht : TOK tp n t) : TOK tp n (nx tp n t) ∧ t.2.2.2 ≤ (nx tp n t).2.1 := scan_ok hT hn ht.2.1.2
/-- nothing wrong so far -/
def NFt (m : Mem) : Prop := gI m 1 1 16 = iZ 0 ∧ gI m 1 1 17 = iZ (-1)
def RS (m : Mem) (tp : Nat → Int) (n : Nat) (t : TK) : Prop := (CTp m tp n ∧ NFt m) ∧ CTk m t
theorem AT_no {k : Nat} (h : k ≠ 3 ∧ k ≠ 4 ∧ k ≠ 5 ∧ k ≠ 6) : ¬ AT 1 1 k := by unfold AT; omega
section CTOK
variable {m : Mem} {K : Option SV → Mem → Prop} {tp : Nat → Int} {n : Nat} {t : TK}
theorem RS.fr {A : Nat → Nat → Nat → Prop} {m' : Mem} (h : RS m tp n t) (F : Fr A m m') (h2 : ∀ n k, ¬ A 2 n k) (h1 : ∀ k, (2 ≤ k ∧ k ≤ 6) ∨ k = 16 ∨ k = 17 → ¬ A 1 1 k) : RS m' tp n t :=
  ⟨⟨h.1.1.fr F h2 (h1 2 (by omega)), (F.2 _ _ _ (h1 16 (by omega))).trans h.1.2.1, (F.2 _ _ _ (h1 17 (by omega))).trans h.1.2.2⟩, ⟨(F.2 _ _ _ (h1 4 (by omega))).trans h.2.1, (F.2 _ _ _ (h1 5 (by omega))).trans h.2.2.1, (F.2 _ _ _ (h1 6 (by omega))).trans h.2.2.2.1, (F.2 _ _ _ (h1 3 (by omega))).trans h.2.2.2.2⟩⟩
theorem c_adv (hT : TPOK tp) (hn : n ≤ 800) (ht : TOK tp n t) (hR : RS m tp n t) (h : ∀ m', RS m' tp n (nx tp n t) → Fr AT m m' → K none m') : smC true 11 [vR (some (1, 1))] m K :=
  c_advance hR.2.2.2.2 ht.2.1.2 hn hT hR.1.1 (fun m' h1 h2 F => h m' ⟨⟨h1, (F.2 _ _ _ (by unfold AT; omega)).trans hR.1.2.1, (F.2 _ _ _ (by unfold AT; omega)).trans hR.1.2.2⟩, h2⟩ F)
def AF : Nat → Nat → Nat → Prop := fun t n k => t = 1 ∧ n = 1 ∧ (k = 16 ∨ k = 17)
theorem c_fail {a : Int} {p : Nat} {x y : Int32} (hx : x = iZ a) (hy : y = iZ p) (h : ∀ m', gI m' 1 1 16 = iZ a → gI m' 1 1 17 = iZ p → Fr AF m m' → K (some (vI 0)) m') : smC true 17 [vR (some (1, 1)), vI x, vI y] m K := by
  subst hx; subst hy
  refine smC_wp [some (vR (some (1, 1))), some (vI (iZ a)), some (vI (iZ p))] cd_17 [] 20 OK_17 (by decide) rfl rfl (Nat.le_of_ble_eq_true rfl) ?_
  refine And.intro (Or.inl rfl) (h _ ?_ ?_ ((Fr.st ⟨rfl, rfl, by omega⟩).tr (Fr.st ⟨rfl, rfl, by omega⟩)))
  · simp only [gI_s]; simp
  · simp only [gI_s]; simp
theorem c_signHere (ht : TOK tp n t) (hR : RS m tp n t) (h : K (some (vI (iZ (sgn t)))) m) : smC true 20 [vR (some (1, 1))] m K := by
  obtain ⟨_, e4, e5, e6, e3⟩ := hR
  have h1 := ht.1
  have h3 := ht.2.2.1
  refine smC_wp [some (vR (some (1, 1)))] cd_20 [] 40 OK_20 (by decide) rfl rfl (Nat.le_of_ble_eq_true rfl) ?_
  unfold sgn at h
  refine And.intro (fun z => ?_) (fun z => ?_)
  rotate_left
  · rw [e4, L3, iZ_eq (by constructor <;> omega) (by decide)] at z
    rw [if_neg z] at h
    exact And.intro trivial h
  rw [e4, L3, iZ_eq (by constructor <;> omega) (by decide)] at z
  rw [if_pos z] at h
  refine And.intro (fun y => ?_) (fun y => ?_)
  rotate_left
  · rw [e6, L43, iZ_eq (by constructor <;> omega) (by decide)] at y
    rw [if_pos y] at h
    exact And.intro trivial h
  rw [e6, L43, iZ_eq (by constructor <;> omega) (by decide)] at y
  rw [if_neg y] at h
  refine And.intro (fun y => ?_) (fun y => ?_)
  rotate_left
  · rw [e6, L45, iZ_eq (by constructor <;> omega) (by decide)] at y
    rw [if_pos y] at h
    exact And.intro trivial h
  rw [e6, L45, iZ_eq (by constructor <;> omega) (by decide)] at y
  rw [if_neg y] at h
  refine And.intro (fun y => ?_) (fun y => ?_)
  · rw [e6, L61, iZ_eq (by constructor <;> omega) (by decide)] at y
    rw [if_neg y] at h
    exact And.intro trivial h
  · rw [e6, L61, iZ_eq (by constructor <;> omega) (by decide)] at y
    rw [if_pos y] at h
    exact And.intro trivial h
theorem c_takeByte {b : Int} {x : Int32} (hx : x = iZ b) (rb : 0 ≤ b ∧ b ≤ 255) (hT : TPOK tp) (hn : n ≤ 800) (ht : TOK tp n t) (hR : RS m tp n t) (h1 : ∀ m', isB b t → RS m' tp n (nx tp n t) → Fr AT m m' → K (some (vI 1)) m') (h0 : ¬ isB b t → K (some (vI 0)) m) : smC true 25 [vR (some (1, 1)), vI x] m K := by
  subst hx
  obtain ⟨_, e4, e5, e6, e3⟩ := id hR
  have q1 := ht.1
  have q3 := ht.2.2.1
  refine smC_wp [some (vR (some (1, 1))), some (vI (iZ b))] cd_25 [] 40 OK_25 (by decide) rfl rfl (Nat.le_of_ble_eq_true rfl) ?_
  refine And.intro (fun z => ?_) (fun z => ?_)
  · rw [e4, L3, iZ_eq (by constructor <;> omega) (by decide)] at z
    exact And.intro (Or.inl rfl) (h0 (fun w => z w.1))
  rw [e4, L3, iZ_eq (by constructor <;> omega) (by decide)] at z
  refine And.intro (fun y => ?_) (fun y => ?_)
  · rw [e6, iZ_eq (by constructor <;> omega) (by constructor <;> omega)] at y
    refine And.intro trivial (c_adv hT hn ht hR (fun m1 R1 F1 => ?_))
    exact And.intro (Or.inr rfl) (h1 m1 ⟨z, y⟩ R1 F1)
  · rw [e6, iZ_eq (by constructor <;> omega) (by constructor <;> omega)] at y
    exact And.intro (Or.inl rfl) (h0 (fun w => y w.2))
abbrev RE (α : Type) := (Int × Nat) ⊕ α
def pNum (tp : Nat → Int) (n : Nat) (lo hi : Int) (t : TK) : RE (Int × TK) :=
  if t.1 ≠ 2 then .inl (1, t.2.1) else if 3 < t.2.2.2 - t.2.1 ∨ t.2.2.1 < lo ∨ hi < t.2.2.1 then .inl (2, t.2.1) else .inr (t.2.2.1, nx tp n t)
/-- a fault is told -/
def FTd (m : Mem) (e : Int × Nat) : Prop := gI m 1 1 16 = iZ e.1 ∧ gI m 1 1 17 = iZ e.2
def AR : Nat → Nat → Nat → Prop := fun t n k => t = 1 ∧ n = 1 ∧ (k = 3 ∨ k = 4 ∨ k = 5 ∨ k = 6 ∨ k = 8 ∨ k = 16 ∨ k = 17)
theorem AT_AR {t n k : Nat} (h : AT t n k) : AR t n k := ⟨h.1, h.2.1, by have := h.2.2; omega⟩
theorem AF_AR {t n k : Nat} (h : AF t n k) : AR t n k := ⟨h.1, h.2.1, by have := h.2.2; omega⟩
theorem c_readNumber {lo hi : Int} {x y : Int32} (hx : x = iZ lo) (hy : y = iZ hi) (rlo : 0 ≤ lo ∧ lo ≤ 1000) (rhi : 0 ≤ hi ∧ hi ≤ 1000) (hT : TPOK tp) (hn : n ≤ 800) (ht : TOK tp n t) (hR : RS m tp n t)
    (hF : ∀ m' e, pNum tp n lo hi t = .inl e → FTd m' e → Fr AR m m' → K (some (vI 0)) m') (hS : ∀ m' v t', pNum tp n lo hi t = .inr (v, t') → lo ≤ v ∧ v ≤ hi → RS m' tp n t' → gI m' 1 1 8 = iZ v → Fr AR m m' → K (some (vI 1)) m') : smC true 21 [vR (some (1, 1)), vI x, vI y] m K := by
  subst hx; subst hy
  obtain ⟨_, e4, e5, e6, e3⟩ := id hR
  have q1 := ht.1
  have q2 := ht.2.1
  have q3 := ht.2.2.1
  unfold pNum at hF hS
  have two : t.1 = 2 → (3 < t.2.2.2 - t.2.1 ∨ t.2.2.1 < lo ∨ hi < t.2.2.1) → smE true 21 47 [some (vR (some (1, 1))), some (vI (iZ lo)), some (vI (iZ hi))] [] m K := by
    intro z w
    rw [if_neg (by omega), if_pos w] at hF
    refine wp_ok (by decide) OK_21 (cc := cd_21) rfl (stops := []) 30 _ _ _ _ ?_
    refine And.intro trivial (c_fail (a := 2) (p := t.2.1) rfl e5 (fun m1 f1 f2 F1 => ?_))
    exact And.intro (Or.inl rfl) (hF m1 _ rfl ⟨f1, f2⟩ (F1.mono (fun t n k z => AF_AR z)))
  refine smC_wp [some (vR (some (1, 1))), some (vI (iZ lo)), some (vI (iZ hi))] cd_21 [47] 60 OK_21 (by decide) rfl rfl (Nat.le_of_ble_eq_true rfl) ?_
  refine And.intro (fun z => ?_) (fun z => ?_)
  rotate_left
  · rw [e4, L2, iZ_eq (by constructor <;> omega) (by decide)] at z
    rw [if_pos z] at hF
    refine And.intro trivial (c_fail (a := 1) (p := t.2.1) rfl e5 (fun m1 f1 f2 F1 => ?_))
    exact And.intro (Or.inl rfl) (hF m1 _ rfl ⟨f1, f2⟩ (F1.mono (fun t n k z => AF_AR z)))
  rw [e4, L2, iZ_eq (by constructor <;> omega) (by decide)] at z
  refine And.intro (fun y => ?_) (fun y => ?_)
  · rw [e3, e5, L3, iZ_sub, iZ_lt (by decide) (by constructor <;> omega)] at y
    exact And.intro trivial (two z (by omega))
  rw [e3, e5, L3, iZ_sub, iZ_lt (by decide) (by constructor <;> omega)] at y
  refine And.intro (fun w => ?_) (fun w => ?_)
  · rw [e6, iZ_lt (by constructor <;> omega) (by constructor <;> omega)] at w
    exact And.intro trivial (two z (by omega))
  rw [e6, iZ_lt (by constructor <;> omega) (by constructor <;> omega)] at w
  refine And.intro (fun u => ?_) (fun u => ?_)
  rotate_left
  · rw [e6, iZ_le (by constructor <;> omega) (by constructor <;> omega)] at u
    exact And.intro trivial (two z (by omega))
  rw [e6, iZ_le (by constructor <;> omega) (by constructor <;> omega)] at u
  rw [if_neg (by omega), if_neg (by omega)] at hS
  have F0 : Fr AR m (sI m 1 1 8 (gI m 1 1 6)) := Fr.st ⟨rfl, rfl, by omega⟩
  have R0 : RS (sI m 1 1 8 (gI m 1 1 6)) tp n t := hR.fr (A := fun t n k => t = 1 ∧ n = 1 ∧ k = 8) (Fr.st ⟨rfl, rfl, rfl⟩) (fun n k => by omega) (fun k hk => by omega)
  refine And.intro trivial (c_adv hT hn ht R0 (fun m1 R1 F1 => ?_))
  refine And.intro (Or.inr rfl) (hS m1 _ _ rfl (by omega) R1 ?_ (F0.tr (F1.mono (fun t n k z => AT_AR z))))
  rw [F1.2 1 1 8 (AT_no (by omega)), gI_s, if_pos ⟨rfl, rfl, rfl⟩]; exact e6
end CTOK
