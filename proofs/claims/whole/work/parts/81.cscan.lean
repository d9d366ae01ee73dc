/-! THE CLASS's reader: tokens -/
def CTp (m : Mem) (tp : Nat → Int) (n : Nat) : Prop := (∀ k, k < 800 → gI m 2 2 k = iZ (tp k)) ∧ gI m 1 1 2 = iZ n
def CTk (m : Mem) (t : TK) : Prop := gI m 1 1 4 = iZ t.1 ∧ gI m 1 1 5 = iZ t.2.1 ∧ gI m 1 1 6 = iZ t.2.2.1 ∧ gI m 1 1 3 = iZ t.2.2.2
def AT : Nat → Nat → Nat → Prop := fun t n k => t = 1 ∧ n = 1 ∧ (k = 3 ∨ k = 4 ∨ k = 5 ∨ k = 6)
section CSC
variable {m : Mem} {K : Option SV → Mem → Prop} {tp : Nat → Int} {n : Nat}
theorem CTp.fr {A : Nat → Nat → Nat → Prop} {m' : Mem} (h : CTp m tp n) (F : Fr A m m') (h2 : ∀ n k, ¬ A 2 n k) (h12 : ¬ A 1 1 2) : CTp m' tp n :=
  ⟨fun k hk => (F.2 _ _ _ (h2 _ _)).trans (h.1 k hk), (F.2 _ _ _ h12).trans h.2⟩
theorem CTp.st {v : Int32} {k : Nat} (h : CTp m tp n) (hk : k ≠ 2) : CTp (sI m 1 1 k v) tp n :=
  h.fr (A := fun t n j => t = 1 ∧ n = 1 ∧ j = k) (Fr.st ⟨rfl, rfl, rfl⟩) (fun n k => by omega) (by omega)
theorem CTp.at {p : Nat} {x : Int32} (h : CTp m tp n) (hn : n ≤ 800) (hp : p < n) (hx : x = iZ p) : vp_in x 800 ∧ gI m 2 2 x.toNatClampNeg = iZ (tp p) := by
  subst hx
  refine ⟨(iZ_in (by constructor <;> omega)).mpr (by omega), ?_⟩
  rw [iZ_clamp (by constructor <;> omega), show ((p : Nat) : Int).toNat = p by omega]
  exact h.1 p (by omega)
theorem c_advance {p : Nat} (hp : gI m 1 1 3 = iZ p) (hpn : p ≤ n) (hn : n ≤ 800) (hT : TPOK tp) (hC : CTp m tp n)
    (h : ∀ m', CTp m' tp n → CTk m' (scan tp n p) → Fr AT m m' → K none m') : smC true 11 [vR (some (1, 1))] m K := by
  -- the end: what the token is
  have fin : ∀ (m1 : Mem) (t : TK), CTp m1 tp n → CTk m1 t → Fr AT m m1 → t = scan tp n p → smE true 11 309 [some (vR (some (1, 1)))] [] m1 K := by
    intro m1 t C1 T1 F1 e
    subst e
    refine wp_ok (by decide) OK_11 (cc := cd_11) rfl (stops := []) 10 _ _ _ _ ?_
    exact And.intro trivial (h m1 C1 T1 F1)
  -- letters
  have wl : ∀ (f q : Nat) (m1 : Mem) (s0 : Nat), n ≤ q + f → q ≤ n → CTp m1 tp n → gI m1 1 1 4 = iZ 1 → gI m1 1 1 5 = iZ s0 → gI m1 1 1 6 = iZ 0 → gI m1 1 1 3 = iZ q → Fr AT m m1 → (1, s0, 0, wdF tp n f q) = scan tp n p → smE true 11 103 [some (vR (some (1, 1)))] [] m1 K := by
    intro f
    induction f with
    | zero =>
      intro q m1 s0 hf hq C1 e4 e5 e6 e3 F1 e
      refine wp_ok (by decide) OK_11 (cc := cd_11) rfl (stops := [309]) 40 _ _ _ _ ?_
      refine And.intro (fun _ => And.intro trivial (fin m1 _ C1 ⟨e4, e5, e6, e3⟩ F1 e)) (fun z => ?_)
      rw [e3, C1.2, iZ_le (by constructor <;> omega) (by constructor <;> omega)] at z
      omega
    | succ f ih =>
      intro q m1 s0 hf hq C1 e4 e5 e6 e3 F1 e
      unfold wdF at e
      refine wp1_ok (by decide) OK_11 (cc := cd_11) rfl (stops := [103, 309]) (f := 40) ?_
      refine And.intro (fun z => ?_) (fun z => ?_)
      · rw [e3, C1.2, iZ_le (by constructor <;> omega) (by constructor <;> omega)] at z
        rw [if_neg (by omega)] at e
        exact And.intro trivial (fin m1 _ C1 ⟨e4, e5, e6, e3⟩ F1 e)
      rw [e3, C1.2, iZ_le (by constructor <;> omega) (by constructor <;> omega)] at z
      have hb := hT q (by omega)
      have ha := C1.at hn (by omega) e3
      refine And.intro ha.1 ?_
      rw [ha.2]
      refine And.intro (fun y => ?_) (fun y => ?_)
      · rw [L97, iZ_lt (by constructor <;> omega) (by decide)] at y
        rw [if_neg (by omega)] at e
        exact And.intro trivial (fin m1 _ C1 ⟨e4, e5, e6, e3⟩ F1 e)
      rw [L97, iZ_lt (by constructor <;> omega) (by decide)] at y
      refine And.intro ha.1 ?_
      rw [ha.2]
      refine And.intro (fun w => ?_) (fun w => ?_)
      · rw [L122, iZ_lt (by decide) (by constructor <;> omega)] at w
        rw [if_neg (by omega)] at e
        exact And.intro trivial (fin m1 _ C1 ⟨e4, e5, e6, e3⟩ F1 e)
      rw [L122, iZ_lt (by decide) (by constructor <;> omega)] at w
      rw [if_pos (by omega)] at e
      refine And.intro trivial ?_
      rw [e3, L1, iZ_add]
      refine ih (q + 1) _ s0 (by omega) (by omega) (C1.st (by decide)) ?_ ?_ ?_ ?_ (F1.tr (Fr.st ⟨rfl, rfl, by omega⟩)) e
      · rw [gI_s, if_neg (by omega)]; exact e4
      · rw [gI_s, if_neg (by omega)]; exact e5
      · rw [gI_s, if_neg (by omega)]; exact e6
      · rw [gI_s, if_pos ⟨rfl, rfl, rfl⟩]; congr 1
  -- digits
  have nl : ∀ (f q : Nat) (m1 : Mem) (s0 : Nat) (v : Int), n ≤ q + f → q ≤ n → 0 ≤ v ∧ v ≤ 9999 → CTp m1 tp n → gI m1 1 1 4 = iZ 2 → gI m1 1 1 5 = iZ s0 → gI m1 1 1 6 = iZ v → gI m1 1 1 3 = iZ q → Fr AT m m1 → (2, s0, nmF tp n f q v) = scan tp n p → smE true 11 188 [some (vR (some (1, 1)))] [] m1 K := by
    intro f
    induction f with
    | zero =>
      intro q m1 s0 v hf hq hv C1 e4 e5 e6 e3 F1 e
      refine wp_ok (by decide) OK_11 (cc := cd_11) rfl (stops := [309]) 40 _ _ _ _ ?_
      refine And.intro (fun _ => And.intro trivial (fin m1 _ C1 ⟨e4, e5, e6, e3⟩ F1 e)) (fun z => ?_)
      rw [e3, C1.2, iZ_le (by constructor <;> omega) (by constructor <;> omega)] at z
      omega
    | succ f ih =>
      intro q m1 s0 v hf hq hv C1 e4 e5 e6 e3 F1 e
      unfold nmF at e
      refine wp1_ok (by decide) OK_11 (cc := cd_11) rfl (stops := [188, 265, 309]) (f := 60) ?_
      refine And.intro (fun z => ?_) (fun z => ?_)
      · rw [e3, C1.2, iZ_le (by constructor <;> omega) (by constructor <;> omega)] at z
        rw [if_neg (by omega)] at e
        exact And.intro trivial (fin m1 _ C1 ⟨e4, e5, e6, e3⟩ F1 e)
      rw [e3, C1.2, iZ_le (by constructor <;> omega) (by constructor <;> omega)] at z
      have hb := hT q (by omega)
      have ha := C1.at hn (by omega) e3
      refine And.intro ha.1 ?_
      rw [ha.2]
      refine And.intro (fun y => ?_) (fun y => ?_)
      · rw [L48, iZ_lt (by constructor <;> omega) (by decide)] at y
        rw [if_neg (by omega)] at e
        exact And.intro trivial (fin m1 _ C1 ⟨e4, e5, e6, e3⟩ F1 e)
      rw [L48, iZ_lt (by constructor <;> omega) (by decide)] at y
      refine And.intro ha.1 ?_
      rw [ha.2]
      refine And.intro (fun w => ?_) (fun w => ?_)
      · rw [L57, iZ_lt (by decide) (by constructor <;> omega)] at w
        rw [if_neg (by omega)] at e
        exact And.intro trivial (fin m1 _ C1 ⟨e4, e5, e6, e3⟩ F1 e)
      rw [L57, iZ_lt (by decide) (by constructor <;> omega)] at w
      rw [if_pos (by omega)] at e
      have go : ∀ v' : Int, v' = (if v < 1000 then 10 * v + tp q - 48 else v) → smE true 11 265 [some (vR (some (1, 1)))] [vI (iZ v'), vR (some (1, 1))] m1 K := by
        intro v' ev
        refine wp_ok (by decide) OK_11 (cc := cd_11) rfl (stops := [188]) 40 _ _ _ _ ?_
        refine And.intro trivial ?_
        have q3 : gI (sI m1 1 1 6 (iZ v')) 1 1 3 = iZ q := by rw [gI_s, if_neg (by omega)]; exact e3
        rw [q3, L1, iZ_add]
        rw [← ev] at e
        refine ih (q + 1) _ s0 v' (by omega) (by omega) (by rw [ev]; split <;> omega) ((C1.st (by decide)).st (by decide)) ?_ ?_ ?_ ?_ ((F1.tr (Fr.st ⟨rfl, rfl, by omega⟩)).tr (Fr.st ⟨rfl, rfl, by omega⟩)) e
        · simp only [gI_s]; simp; exact e4
        · simp only [gI_s]; simp; exact e5
        · simp only [gI_s]; simp
        · simp only [gI_s]; simp
      refine And.intro (fun u => ?_) (fun u => ?_)
      · rw [e6, L1000, iZ_le (by decide) (by constructor <;> omega)] at u
        refine And.intro trivial ?_
        rw [e6]
        exact go v (by rw [if_neg (by omega)])
      · rw [e6, L1000, iZ_le (by decide) (by constructor <;> omega)] at u
        refine And.intro ha.1 ?_
        refine And.intro trivial ?_
        rw [ha.2, e6, L10, L48, iZ_mul, iZ_add, iZ_sub]
        exact go _ (by rw [if_pos (by omega)])
  -- behind the blanks
  have tok : ∀ (q : Nat) (m1 : Mem), q ≤ n → CTp m1 tp n → gI m1 1 1 3 = iZ q → Fr AT m m1 → tkAt tp n q = scan tp n p → smE true 11 38 [some (vR (some (1, 1)))] [] m1 K := by
    intro q m1 hq C1 e3 F1 e
    refine wp_ok (by decide) OK_11 (cc := cd_11) rfl (stops := [51]) 40 _ _ _ _ ?_
    refine And.intro trivial ?_
    rw [e3]
    have C2 : CTp (sI (sI m1 1 1 5 (iZ q)) 1 1 6 0) tp n := (C1.st (by decide)).st (by decide)
    have F2 : Fr AT m (sI (sI m1 1 1 5 (iZ q)) 1 1 6 0) := (F1.tr (Fr.st ⟨rfl, rfl, by omega⟩)).tr (Fr.st ⟨rfl, rfl, by omega⟩)
    have q3 : gI (sI (sI m1 1 1 5 (iZ q)) 1 1 6 0) 1 1 3 = iZ q := by simp only [gI_s]; simp; exact e3
    have q5 : gI (sI (sI m1 1 1 5 (iZ q)) 1 1 6 0) 1 1 5 = iZ q := by simp only [gI_s]; simp
    have q6 : gI (sI (sI m1 1 1 5 (iZ q)) 1 1 6 0) 1 1 6 = iZ 0 := by simp only [gI_s]; simp; rfl
    generalize sI (sI m1 1 1 5 (iZ q)) 1 1 6 0 = m2 at *
    unfold tkAt at e
    refine wp1_ok (by decide) OK_11 (cc := cd_11) rfl (stops := [103, 155, 309]) (f := 60) ?_
    refine And.intro (fun z => ?_) (fun z => ?_)
    rotate_left
    · rw [q3, C2.2, iZ_lt (by constructor <;> omega) (by constructor <;> omega)] at z
      rw [if_pos (by omega)] at e
      refine And.intro trivial (fin _ _ (C2.st (by decide)) ⟨?_, ?_, ?_, ?_⟩ (F2.tr (Fr.st ⟨rfl, rfl, by omega⟩)) e)
      · rw [gI_s, if_pos ⟨rfl, rfl, rfl⟩]; rfl
      · rw [gI_s, if_neg (by omega)]; exact q5
      · rw [gI_s, if_neg (by omega)]; exact q6
      · rw [gI_s, if_neg (by omega)]; exact q3
    rw [q3, C2.2, iZ_lt (by constructor <;> omega) (by constructor <;> omega)] at z
    rw [if_neg (by omega)] at e
    have hb := hT q (by omega)
    have ha := C2.at hn (by omega) q3
    have oth : ¬ (97 ≤ tp q ∧ tp q ≤ 122) → ¬ (48 ≤ tp q ∧ tp q ≤ 57) → smE true 11 281 [some (vR (some (1, 1)))] [] m2 K := by
      intro n1 n2
      rw [if_neg n1, if_neg n2] at e
      refine wp_ok (by decide) OK_11 (cc := cd_11) rfl (stops := [309]) 40 _ _ _ _ ?_
      have ha2 := (C2.st (k := 4) (v := 3) (by decide)).at (p := q) hn (by omega) (x := gI (sI m2 1 1 4 3) 1 1 3) (by rw [gI_s, if_neg (by omega)]; exact q3)
      refine And.intro ha2.1 ?_
      refine And.intro trivial ?_
      rw [ha2.2]
      have r3 : gI (sI (sI m2 1 1 4 3) 1 1 6 (iZ (tp q))) 1 1 3 = iZ q := by simp only [gI_s]; simp; exact q3
      rw [r3, L1, iZ_add]
      refine fin _ _ (((C2.st (by decide)).st (by decide)).st (by decide)) ⟨?_, ?_, ?_, ?_⟩ (((F2.tr (Fr.st ⟨rfl, rfl, by omega⟩)).tr (Fr.st ⟨rfl, rfl, by omega⟩)).tr (Fr.st ⟨rfl, rfl, by omega⟩)) e
      · simp only [gI_s]; simp; rfl
      · simp only [gI_s]; simp; exact q5
      · simp only [gI_s]; simp
      · simp only [gI_s]; simp
    have num : ¬ (97 ≤ tp q ∧ tp q ≤ 122) → smE true 11 155 [some (vR (some (1, 1)))] [] m2 K := by
      intro n1
      refine wp_ok (by decide) OK_11 (cc := cd_11) rfl (stops := [188, 281]) 40 _ _ _ _ ?_
      refine And.intro ha.1 ?_
      rw [ha.2]
      refine And.intro (fun y => ?_) (fun y => ?_)
      · rw [L48, iZ_lt (by constructor <;> omega) (by decide)] at y
        exact And.intro trivial (oth n1 (by omega))
      rw [L48, iZ_lt (by constructor <;> omega) (by decide)] at y
      refine And.intro ha.1 ?_
      rw [ha.2]
      refine And.intro (fun w => ?_) (fun w => ?_)
      · rw [L57, iZ_lt (by decide) (by constructor <;> omega)] at w
        exact And.intro trivial (oth n1 (by omega))
      rw [L57, iZ_lt (by decide) (by constructor <;> omega)] at w
      rw [if_neg n1, if_pos (by omega)] at e
      refine And.intro trivial (nl 800 q _ q 0 (by omega) hq (by omega) (C2.st (by decide)) ?_ ?_ ?_ ?_ (F2.tr (Fr.st ⟨rfl, rfl, by omega⟩)) e)
      · rw [gI_s, if_pos ⟨rfl, rfl, rfl⟩]; rfl
      · rw [gI_s, if_neg (by omega)]; exact q5
      · rw [gI_s, if_neg (by omega)]; exact q6
      · rw [gI_s, if_neg (by omega)]; exact q3
    refine And.intro ha.1 ?_
    rw [ha.2]
    refine And.intro (fun y => ?_) (fun y => ?_)
    · rw [L97, iZ_lt (by constructor <;> omega) (by decide)] at y
      exact And.intro trivial (num (by omega))
    rw [L97, iZ_lt (by constructor <;> omega) (by decide)] at y
    refine And.intro ha.1 ?_
    rw [ha.2]
    refine And.intro (fun w => ?_) (fun w => ?_)
    · rw [L122, iZ_lt (by decide) (by constructor <;> omega)] at w
      exact And.intro trivial (num (by omega))
    rw [L122, iZ_lt (by decide) (by constructor <;> omega)] at w
    rw [if_pos (by omega)] at e
    refine And.intro trivial (wl 800 q _ q (by omega) hq (C2.st (by decide)) ?_ ?_ ?_ ?_ (F2.tr (Fr.st ⟨rfl, rfl, by omega⟩)) e)
    · rw [gI_s, if_pos ⟨rfl, rfl, rfl⟩]; rfl
    · rw [gI_s, if_neg (by omega)]; exact q5
    · rw [gI_s, if_neg (by omega)]; exact q6
    · rw [gI_s, if_neg (by omega)]; exact q3
  -- blanks
  have sk : ∀ (f q : Nat) (m1 : Mem), n ≤ q + f → q ≤ n → CTp m1 tp n → gI m1 1 1 3 = iZ q → Fr AT m m1 → tkAt tp n (skF tp n f q) = scan tp n p → smE true 11 0 [some (vR (some (1, 1)))] [] m1 K := by
    intro f
    induction f with
    | zero =>
      intro q m1 hf hq C1 e3 F1 e
      refine wp1_ok (by decide) OK_11 (cc := cd_11) rfl (stops := [0, 38]) (f := 40) ?_
      refine And.intro (fun _ => And.intro trivial (tok q m1 hq C1 e3 F1 e)) (fun z => ?_)
      rw [e3, C1.2, iZ_le (by constructor <;> omega) (by constructor <;> omega)] at z
      omega
    | succ f ih =>
      intro q m1 hf hq C1 e3 F1 e
      unfold skF at e
      refine wp1_ok (by decide) OK_11 (cc := cd_11) rfl (stops := [0, 38]) (f := 40) ?_
      refine And.intro (fun z => ?_) (fun z => ?_)
      · rw [e3, C1.2, iZ_le (by constructor <;> omega) (by constructor <;> omega)] at z
        rw [if_neg (by omega)] at e
        exact And.intro trivial (tok q m1 hq C1 e3 F1 e)
      rw [e3, C1.2, iZ_le (by constructor <;> omega) (by constructor <;> omega)] at z
      have hb := hT q (by omega)
      have ha := C1.at hn (by omega) e3
      refine And.intro ha.1 ?_
      rw [ha.2]
      refine And.intro (fun y => ?_) (fun y => ?_)
      · rw [L32, iZ_eq (by constructor <;> omega) (by decide)] at y
        rw [if_neg (by omega)] at e
        exact And.intro trivial (tok q m1 hq C1 e3 F1 e)
      rw [L32, iZ_eq (by constructor <;> omega) (by decide)] at y
      rw [if_pos (by omega)] at e
      refine And.intro trivial ?_
      rw [e3, L1, iZ_add]
      refine ih (q + 1) _ (by omega) (by omega) (C1.st (by decide)) ?_ (F1.tr (Fr.st ⟨rfl, rfl, by omega⟩)) e
      rw [gI_s, if_pos ⟨rfl, rfl, rfl⟩]; congr 1
  exact smC_of (by decide) rfl (Nat.le_of_ble_eq_true rfl) (sk 800 p m (by omega) hpn hC hp (Fr.rf _ _) rfl)
end CSC
