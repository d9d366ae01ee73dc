/-! THE MODEL's reader: tokens -/
def sg (b : Int) : Int := if b < 128 then b else b - 256
theorem sg_and : ∀ b : Nat, b < 256 → iZ (sg b) &&& 255 = iZ b := by decide +kernel
def MTp (m : Mem) (tp : Nat → Int) (n : Nat) : Prop := (∀ k, k < 800 → gI m 31 239 k = iZ (sg (tp k))) ∧ gI m 23 231 10 = iZ n
def MTk (m : Mem) (t : TK) : Prop := gI m 23 231 14 = iZ t.1 ∧ gI m 23 231 15 = iZ t.2.1 ∧ gI m 23 231 17 = iZ t.2.2.1 ∧ gI m 23 231 11 = iZ t.2.2.2 ∧ gI m 23 231 16 = iZ ((t.2.2.2 : Int) - t.2.1)
def AU : Nat → Nat → Nat → Prop := fun t n k => t = 23 ∧ n = 231 ∧ (k = 11 ∨ k = 14 ∨ k = 15 ∨ k = 16 ∨ k = 17)
section MSC
variable {m : Mem} {K : Option SV → Mem → Prop} {tp : Nat → Int} {n : Nat}
theorem MTp.fr {A : Nat → Nat → Nat → Prop} {m' : Mem} (h : MTp m tp n) (F : Fr A m m') (h2 : ∀ n k, ¬ A 31 n k) (h12 : ¬ A 23 231 10) : MTp m' tp n :=
  ⟨fun k hk => (F.2 _ _ _ (h2 _ _)).trans (h.1 k hk), (F.2 _ _ _ h12).trans h.2⟩
theorem MTp.st {v : Int32} {k : Nat} (h : MTp m tp n) (hk : k ≠ 10) : MTp (sI m 23 231 k v) tp n :=
  h.fr (A := fun t n j => t = 23 ∧ n = 231 ∧ j = k) (Fr.st ⟨rfl, rfl, rfl⟩) (fun n k => by omega) (by omega)
theorem M_peek {q : Nat} (hq : gI m 23 231 11 = iZ q) (rq : q ≤ 800) (hn : n ≤ 800) (hT : TPOK tp) (hC : MTp m tp n) (h : K (some (vI (iZ (if q < n then tp q else -1)))) m) : smC true 137 [vR (some (23, 231))] m K := by
  refine smC_wp [some (vR (some (23, 231)))] cd_137 [] 40 OK_137 (by decide) rfl rfl (Nat.le_of_ble_eq_true rfl) ?_
  refine And.intro (fun z => ?_) (fun z => ?_)
  · rw [hq, hC.2, iZ_le (by constructor <;> omega) (by constructor <;> omega)] at z
    rw [if_neg (by omega)] at h
    exact And.intro trivial h
  · rw [hq, hC.2, iZ_le (by constructor <;> omega) (by constructor <;> omega)] at z
    rw [if_pos (by omega)] at h
    refine And.intro (by rw [hq]; exact (iZ_in (by constructor <;> omega)).mpr (by omega)) ?_
    refine And.intro trivial ?_
    have hb := hT q (by omega)
    have e := sg_and (tp q).toNat (by omega)
    rw [Int.toNat_of_nonneg hb.1] at e
    rw [hq, iZ_clamp (by constructor <;> omega), show ((q : Nat) : Int).toNat = q by omega, hC.1 q (by omega), e]
    exact h
theorem M_in {v lo hi : Int} {x : Int32} (hx : x = iZ v) (rv : R32 v) (rl : 0 ≤ lo ∧ lo ≤ 1000) (rh : 0 ≤ hi ∧ hi ≤ 1000) {y z : Int64} (hy : y = iL lo) (hz : z = iL hi) (h1 : lo ≤ v ∧ v ≤ hi → K (some (vI 1)) m) (h0 : ¬ (lo ≤ v ∧ v ≤ hi) → K (some (vI 0)) m) : smC true 135 [vL x.toInt64, vL y, vL z] m K := by
  subst hx
  exact M_isIn (iZ_iL rv) hy hz (by constructor <;> omega) (by constructor <;> omega) (by constructor <;> omega) h1 h0
theorem M_goes {p : Nat} (hp : gI m 23 231 11 = iZ p) (hpn : p ≤ n) (hn : n ≤ 800) (hT : TPOK tp) (hC : MTp m tp n)
    (h : ∀ m', MTp m' tp n → MTk m' (scan tp n p) → Fr AU m m' → K none m') : smC true 136 [vR (some (23, 231))] m K := by
  have fin : ∀ (m1 : Mem) (t : TK) (x1 : Option SV), MTp m1 tp n → gI m1 23 231 14 = iZ t.1 → gI m1 23 231 15 = iZ t.2.1 → gI m1 23 231 17 = iZ t.2.2.1 → gI m1 23 231 11 = iZ t.2.2.2 → Fr AU m m1 → t = scan tp n p → smE true 136 207 [some (vR (some (23, 231))), x1] [] m1 K := by
    intro m1 t x1 C1 e14 e15 e17 e11 F1 e
    subst e
    refine wp_ok (by decide) OK_136 (cc := cd_136) rfl (stops := []) 20 _ _ _ _ ?_
    refine And.intro trivial ?_
    rw [e11, e15, iZ_sub]
    refine h _ (C1.st (by decide)) ⟨?_, ?_, ?_, ?_, ?_⟩ (F1.tr (Fr.st ⟨rfl, rfl, by omega⟩))
    · rw [gI_s, if_neg (by omega)]; exact e14
    · rw [gI_s, if_neg (by omega)]; exact e15
    · rw [gI_s, if_neg (by omega)]; exact e17
    · rw [gI_s, if_neg (by omega)]; exact e11
    · rw [gI_s, if_pos ⟨rfl, rfl, rfl⟩]
  have wl : ∀ (f q : Nat) (m1 : Mem) (s0 : Nat) (x1 : Int32), n ≤ q + f → q ≤ n → MTp m1 tp n → gI m1 23 231 14 = iZ 1 → gI m1 23 231 15 = iZ s0 → gI m1 23 231 17 = iZ 0 → gI m1 23 231 11 = iZ q → Fr AU m m1 → (1, s0, 0, wdF tp n f q) = scan tp n p → smE true 136 72 [some (vR (some (23, 231))), some (vI x1)] [] m1 K := by
    intro f
    induction f with
    | zero =>
      intro q m1 s0 x1 hf hq C1 e4 e5 e6 e3 F1 e
      refine wp1_ok (by decide) OK_136 (cc := cd_136) rfl (stops := [72, 207]) (f := 40) ?_
      refine And.intro trivial (M_peek e3 (by omega) hn hT C1 ?_)
      rw [if_neg (by omega)]
      refine And.intro trivial (M_in (lo := 97) (hi := 122) rfl (by decide) (by decide) (by decide) rfl rfl (fun z => by omega) (fun _ => ?_))
      refine And.intro (fun _ => And.intro trivial (fin m1 (1, s0, 0, q) _ C1 e4 e5 e6 e3 F1 e)) (fun z => absurd rfl z)
    | succ f ih =>
      intro q m1 s0 x1 hf hq C1 e4 e5 e6 e3 F1 e
      unfold wdF at e
      refine wp1_ok (by decide) OK_136 (cc := cd_136) rfl (stops := [72, 207]) (f := 40) ?_
      refine And.intro trivial (M_peek e3 (by omega) hn hT C1 ?_)
      have hb : q < n → 0 ≤ tp q ∧ tp q ≤ 255 := fun z => hT q (by omega)
      have rb : R32 (if q < n then tp q else -1) := by
        split
        · rename_i z; have := hb z; constructor <;> omega
        · decide
      refine And.intro trivial (M_in (lo := 97) (hi := 122) rfl rb (by decide) (by decide) rfl rfl (fun z => ?_) (fun z => ?_))
      · have hqn : q < n := by
          rcases Nat.lt_or_ge q n with w | w
          · exact w
          · rw [if_neg (by omega)] at z; omega
        rw [if_pos hqn] at z
        rw [if_pos ⟨hqn, z⟩] at e
        refine And.intro (fun w => absurd w (by decide)) (fun _ => ?_)
        refine And.intro trivial ?_
        rw [e3, L1, iZ_add]
        refine ih (q + 1) _ s0 x1 (by omega) (by omega) (C1.st (by decide)) ?_ ?_ ?_ ?_ (F1.tr (Fr.st ⟨rfl, rfl, by omega⟩)) e
        · rw [gI_s, if_neg (by omega)]; exact e4
        · rw [gI_s, if_neg (by omega)]; exact e5
        · rw [gI_s, if_neg (by omega)]; exact e6
        · rw [gI_s, if_pos ⟨rfl, rfl, rfl⟩]; congr 1
      · rw [if_neg (fun w => z (by rw [if_pos w.1]; exact w.2))] at e
        refine And.intro (fun _ => And.intro trivial (fin m1 _ _ C1 e4 e5 e6 e3 F1 e)) (fun w => absurd rfl w)
  have nl : ∀ (f q : Nat) (m1 : Mem) (s0 : Nat) (v : Int) (x1 : Int32), n ≤ q + f → q ≤ n → 0 ≤ v ∧ v ≤ 9999 → MTp m1 tp n → gI m1 23 231 14 = iZ 2 → gI m1 23 231 15 = iZ s0 → gI m1 23 231 17 = iZ v → gI m1 23 231 11 = iZ q → Fr AU m m1 → (2, s0, nmF tp n f q v) = scan tp n p → smE true 136 121 [some (vR (some (23, 231))), some (vI x1)] [] m1 K := by
    intro f
    induction f with
    | zero =>
      intro q m1 s0 v x1 hf hq hv C1 e4 e5 e6 e3 F1 e
      refine wp1_ok (by decide) OK_136 (cc := cd_136) rfl (stops := [121, 207]) (f := 40) ?_
      refine And.intro trivial (M_peek e3 (by omega) hn hT C1 ?_)
      rw [if_neg (by omega)]
      refine And.intro trivial (M_in (lo := 48) (hi := 57) rfl (by decide) (by decide) (by decide) rfl rfl (fun z => by omega) (fun _ => ?_))
      refine And.intro (fun _ => And.intro trivial (fin m1 (2, s0, v, q) _ C1 e4 e5 e6 e3 F1 e)) (fun z => absurd rfl z)
    | succ f ih =>
      intro q m1 s0 v x1 hf hq hv C1 e4 e5 e6 e3 F1 e
      unfold nmF at e
      refine wp1_ok (by decide) OK_136 (cc := cd_136) rfl (stops := [121, 171, 207]) (f := 60) ?_
      refine And.intro trivial (M_peek e3 (by omega) hn hT C1 ?_)
      have hb : q < n → 0 ≤ tp q ∧ tp q ≤ 255 := fun z => hT q (by omega)
      have rb : R32 (if q < n then tp q else -1) := by
        split
        · rename_i z; have := hb z; constructor <;> omega
        · decide
      refine And.intro trivial (M_in (lo := 48) (hi := 57) rfl rb (by decide) (by decide) rfl rfl (fun z => ?_) (fun z => ?_))
      · have hqn : q < n := by
          rcases Nat.lt_or_ge q n with w | w
          · exact w
          · rw [if_neg (by omega)] at z; omega
        rw [if_pos hqn] at z
        rw [if_pos ⟨hqn, z⟩] at e
        refine And.intro (fun w => absurd w (by decide)) (fun _ => ?_)
        have go : ∀ v' : Int, v' = (if v < 1000 then 10 * v + tp q - 48 else v) → smE true 136 171 [some (vR (some (23, 231))), some (vI x1)] [vI (iZ v'), vR (some (23, 231))] m1 K := by
          intro v' ev
          refine wp_ok (by decide) OK_136 (cc := cd_136) rfl (stops := [121]) 40 _ _ _ _ ?_
          refine And.intro trivial ?_
          have q3 : gI (sI m1 23 231 17 (iZ v')) 23 231 11 = iZ q := by rw [gI_s, if_neg (by omega)]; exact e3
          rw [q3, L1, iZ_add]
          rw [← ev] at e
          refine ih (q + 1) _ s0 v' x1 (by omega) (by omega) (by rw [ev]; split <;> omega) ((C1.st (by decide)).st (by decide)) ?_ ?_ ?_ ?_ ((F1.tr (Fr.st ⟨rfl, rfl, by omega⟩)).tr (Fr.st ⟨rfl, rfl, by omega⟩)) e
          · simp only [gI_s]; simp; exact e4
          · simp only [gI_s]; simp; exact e5
          · simp only [gI_s]; simp
          · simp only [gI_s]; simp
        refine And.intro (fun u => ?_) (fun u => ?_)
        · rw [e6, L999, iZ_le (by constructor <;> omega) (by decide)] at u
          refine And.intro trivial (M_peek e3 (by omega) hn hT C1 ?_)
          rw [if_pos hqn]
          refine And.intro trivial ?_
          rw [e6, L10, L48, iZ_mul, iZ_add, iZ_sub]
          exact go _ (by rw [if_pos (by omega)])
        · rw [e6, L999, iZ_le (by constructor <;> omega) (by decide)] at u
          refine And.intro trivial ?_
          rw [e6]
          exact go v (by rw [if_neg (by omega)])
      · rw [if_neg (fun w => z (by rw [if_pos w.1]; exact w.2))] at e
        refine And.intro (fun _ => And.intro trivial (fin m1 _ _ C1 e4 e5 e6 e3 F1 e)) (fun w => absurd rfl w)
  have tok : ∀ (q : Nat) (m1 : Mem), q ≤ n → MTp m1 tp n → gI m1 23 231 11 = iZ q → Fr AU m m1 → tkAt tp n q = scan tp n p → smE true 136 22 [some (vR (some (23, 231))), none] [] m1 K := by
    intro q m1 hq C1 e3 F1 e
    refine wp_ok (by decide) OK_136 (cc := cd_136) rfl (stops := [35]) 40 _ _ _ _ ?_
    refine And.intro trivial ?_
    rw [e3]
    have C2 : MTp (sI (sI m1 23 231 15 (iZ q)) 23 231 17 0) tp n := (C1.st (by decide)).st (by decide)
    have F2 : Fr AU m (sI (sI m1 23 231 15 (iZ q)) 23 231 17 0) := (F1.tr (Fr.st ⟨rfl, rfl, by omega⟩)).tr (Fr.st ⟨rfl, rfl, by omega⟩)
    have q3 : gI (sI (sI m1 23 231 15 (iZ q)) 23 231 17 0) 23 231 11 = iZ q := by simp only [gI_s]; simp; exact e3
    have q5 : gI (sI (sI m1 23 231 15 (iZ q)) 23 231 17 0) 23 231 15 = iZ q := by simp only [gI_s]; simp
    have q6 : gI (sI (sI m1 23 231 15 (iZ q)) 23 231 17 0) 23 231 17 = iZ 0 := by simp only [gI_s]; simp; rfl
    generalize sI (sI m1 23 231 15 (iZ q)) 23 231 17 0 = m2 at *
    unfold tkAt at e
    have st1 : ∀ {k : Nat} {v : Int32}, k ≠ 11 → k ≠ 15 → k ≠ 17 → gI (sI m2 23 231 k v) 23 231 11 = iZ q ∧ gI (sI m2 23 231 k v) 23 231 15 = iZ q ∧ gI (sI m2 23 231 k v) 23 231 17 = iZ 0 := by
      intro k v h1 h2 h3
      refine ⟨?_, ?_, ?_⟩
      · rw [gI_s, if_neg (by omega)]; exact q3
      · rw [gI_s, if_neg (by omega)]; exact q5
      · rw [gI_s, if_neg (by omega)]; exact q6
    have s4 := fun v => st1 (k := 14) (v := v) (by decide) (by decide) (by decide)
    refine wp1_ok (by decide) OK_136 (cc := cd_136) rfl (stops := [72, 121, 207]) (f := 60) ?_
    refine And.intro trivial (M_peek q3 (by omega) hn hT C2 ?_)
    by_cases hqn : q < n
    · rw [if_pos hqn]
      rw [if_neg (by omega)] at e
      have hb := hT q (by omega)
      refine And.intro (fun _ => ?_) (fun z => ?_)
      rotate_left
      · rw [LM1, iZ_eq (by constructor <;> omega) (by decide)] at z
        omega
      refine And.intro trivial (M_in (lo := 97) (hi := 122) rfl (by constructor <;> omega) (by decide) (by decide) rfl rfl (fun z => ?_) (fun z => ?_))
      · rw [if_pos z] at e
        refine And.intro (fun w => absurd w (by decide)) (fun _ => ?_)
        refine And.intro trivial (wl 800 q _ q _ (by omega) hq (C2.st (by decide)) ?_ (s4 1).2.1 (s4 1).2.2 (s4 1).1 (F2.tr (Fr.st ⟨rfl, rfl, by omega⟩)) e)
        rw [gI_s, if_pos ⟨rfl, rfl, rfl⟩]; rfl
      · rw [if_neg z] at e
        refine And.intro (fun _ => ?_) (fun w => absurd rfl w)
        refine And.intro trivial (M_in (lo := 48) (hi := 57) rfl (by constructor <;> omega) (by decide) (by decide) rfl rfl (fun y => ?_) (fun y => ?_))
        · rw [if_pos y] at e
          refine And.intro (fun w => absurd w (by decide)) (fun _ => ?_)
          refine And.intro trivial (nl 800 q _ q 0 _ (by omega) hq (by omega) (C2.st (by decide)) ?_ (s4 2).2.1 (s4 2).2.2 (s4 2).1 (F2.tr (Fr.st ⟨rfl, rfl, by omega⟩)) e)
          rw [gI_s, if_pos ⟨rfl, rfl, rfl⟩]; rfl
        · rw [if_neg y] at e
          refine And.intro (fun _ => ?_) (fun w => absurd rfl w)
          refine And.intro trivial ?_
          have r3 : gI (sI (sI m2 23 231 14 3) 23 231 17 (iZ (tp q))) 23 231 11 = iZ q := by simp only [gI_s]; simp; exact q3
          rw [r3, L1, iZ_add]
          refine fin _ (3, q, tp q, q + 1) _ (((C2.st (by decide)).st (by decide)).st (by decide)) ?_ ?_ ?_ ?_ (((F2.tr (Fr.st ⟨rfl, rfl, by omega⟩)).tr (Fr.st ⟨rfl, rfl, by omega⟩)).tr (Fr.st ⟨rfl, rfl, by omega⟩)) e
          · simp only [gI_s]; simp; rfl
          · simp only [gI_s]; simp; exact q5
          · simp only [gI_s]; simp
          · simp only [gI_s]; simp
    · rw [if_neg hqn]
      rw [if_pos (by omega)] at e
      refine And.intro (fun z => absurd rfl z) (fun _ => ?_)
      refine And.intro trivial (fin _ (0, q, 0, q) _ (C2.st (by decide)) ?_ (s4 0).2.1 (s4 0).2.2 (s4 0).1 (F2.tr (Fr.st ⟨rfl, rfl, by omega⟩)) e)
      rw [gI_s, if_pos ⟨rfl, rfl, rfl⟩]; rfl
  have sk : ∀ (f q : Nat) (m1 : Mem), n ≤ q + f → q ≤ n → MTp m1 tp n → gI m1 23 231 11 = iZ q → Fr AU m m1 → tkAt tp n (skF tp n f q) = scan tp n p → smE true 136 0 [some (vR (some (23, 231))), none] [] m1 K := by
    intro f
    induction f with
    | zero =>
      intro q m1 hf hq C1 e3 F1 e
      refine wp1_ok (by decide) OK_136 (cc := cd_136) rfl (stops := [0, 22]) (f := 40) ?_
      refine And.intro trivial (M_peek e3 (by omega) hn hT C1 ?_)
      rw [if_neg (by omega)]
      refine And.intro (fun _ => And.intro trivial (tok q m1 hq C1 e3 F1 e)) (fun z => absurd z (by decide))
    | succ f ih =>
      intro q m1 hf hq C1 e3 F1 e
      unfold skF at e
      refine wp1_ok (by decide) OK_136 (cc := cd_136) rfl (stops := [0, 22]) (f := 40) ?_
      refine And.intro trivial (M_peek e3 (by omega) hn hT C1 ?_)
      have rb : R32 (if q < n then tp q else -1) := by
        split
        · have := hT q (by omega); constructor <;> omega
        · decide
      refine And.intro (fun z => ?_) (fun z => ?_)
      · rw [L32, iZ_eq rb (by decide)] at z
        rw [if_neg (fun w => z (by rw [if_pos w.1]; exact w.2))] at e
        exact And.intro trivial (tok q m1 hq C1 e3 F1 e)
      · rw [L32, iZ_eq rb (by decide)] at z
        have hqn : q < n := by
          rcases Nat.lt_or_ge q n with w | w
          · exact w
          · rw [if_neg (by omega)] at z; omega
        rw [if_pos hqn] at z
        rw [if_pos ⟨hqn, z⟩] at e
        refine And.intro trivial ?_
        rw [e3, L1, iZ_add]
        refine ih (q + 1) _ (by omega) (by omega) (C1.st (by decide)) ?_ (F1.tr (Fr.st ⟨rfl, rfl, by omega⟩)) e
        rw [gI_s, if_pos ⟨rfl, rfl, rfl⟩]; congr 1
  exact smC_of (by decide) rfl (Nat.le_of_ble_eq_true rfl) (sk 800 p m (by omega) hpn hC hp (Fr.rf _ _) rfl)
end MSC
