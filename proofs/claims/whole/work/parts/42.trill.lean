/-! TRILLS -/
def altQ (P : Int → Int × Int) (T : Int) : Int → Nat → List Pl
  | _, 0 => []
  | k, n + 1 => (k, P k, T) :: altQ P T (1 - k) n
def trQ (P : Int → Int × Int) (T : Int) (bu : Bool) (n t : Int) : List Pl := altQ P T (if bu then 0 else 1) (n - 1).toNat ++ [(0, P 0, t - (n - 1) * T)]
theorem altQ_len (P : Int → Int × Int) (T : Int) : ∀ (n : Nat) (k : Int), (altQ P T k n).length = n
  | 0, _ => rfl
  | n + 1, k => by rw [altQ, List.length_cons, altQ_len P T n]
theorem altQ_cur (P : Int → Int × Int) (T : Int) (i : Nat) : ∀ (n : Nat) (k : Int) (s : WS), (apN i (altQ P T k n) s).2.2 = s.2.2 + n * T
  | 0, _, s => by simp [altQ, apN]
  | n + 1, k, s => by
    rw [altQ, apN, altQ_cur P T i n]
    simp only [plN]
    rw [Int.natCast_add, Int.add_mul]
    omega
theorem altQ_mem {P : Int → Int × Int} {T : Int} : ∀ (n : Nat) (k : Int), k = 0 ∨ k = 1 → ∀ x ∈ altQ P T k n, (x.1 = 0 ∨ x.1 = 1) ∧ x.2.1 = P x.1 ∧ x.2.2 = T
  | 0, _, _, x, hx => by cases hx
  | n + 1, k, hk, x, hx => by
    simp only [altQ, List.mem_cons] at hx
    rcases hx with rfl | hx
    · exact ⟨hk, rfl, rfl⟩
    · exact altQ_mem n (1 - k) (by omega) x hx
theorem WOK.ap {i : Nat} : ∀ {q : List Pl} {s : WS}, WOK s → (∀ x ∈ q, okP x.2.1 ∧ 1 ≤ x.2.2 ∧ x.2.2 ≤ 1000000) → WOK (apN i q s)
  | [], _, h, _ => h
  | x :: q, s, h, hq => WOK.ap (q := q) (h.pl (hq x List.mem_cons_self).1 (hq x List.mem_cons_self).2) (fun y hy => hq y (List.mem_cons_of_mem _ hy))
def CB (m0 : Mem) (sc i : Nat) (kp : Bool) (cap : Nat) (m : Mem) (s : WS) (lf o a : Int) (b : Bool) : Prop :=
  RepB m sc kp cap s.1 s.2.2 ∧ (gI m 4 4 11 = iZ lf ∧ gI m 15 (sc + 4) i = iZ o ∧ gI m 16 (sc + 5) i = iZ a ∧ gI m 4 4 13 = (if b then 1 else 0)) ∧ WOK s ∧ Fr (AW sc kp i) m0 m
section TRILL
variable {m0 m : Mem} {K : Option SV → Mem → Prop} {sc i nn cap : Nat} {kp b : Bool} {T lf o a : Int} {P : Int → Int × Int} {s : WS}
theorem CW.cb (h : CW m0 sc i kp cap m s lf o a b) : CB m0 sc i kp cap m s lf o a b := ⟨h.1.1, h.2⟩
theorem rb_n {t n k : Nat} (hC : CB m0 sc i kp cap m s lf o a b) (h6 : t ≠ 6) (h20 : t ≠ 20) (h15 : t ≠ 15) (h16 : t ≠ 16) (h4 : t = 4 → k ≠ 11 ∧ k ≠ 13) : gI m t n k = gI m0 t n k :=
  hC.2.2.2.2 t n k (by unfold AW; omega)
theorem c_play0B {l : Int} {xl : Int32} (hE : EW m0 sc i nn T P) (hxl : xl = iZ l) (hC : CB m0 sc i kp cap m s lf o a b) (hl : 1 ≤ l ∧ l ≤ 1000000) (hc : s.1.length < cap)
    (h : ∀ m', CW m0 sc i kp cap m' (plN i 0 (P 0) l s) lf o a b → K none m') : smC true 71 [vR (some (4, 4)), vI 0, vI xl] m K := by
  subst hxl
  refine smC_wp [some (vR (some (4, 4))), some (vI 0), some (vI (iZ l))] cd_71 [] 40 OK_71 (by decide) rfl rfl (Nat.le_of_ble_eq_true rfl) ?_
  refine Exists.intro _ (And.intro ((Fr_gP hC.2.2.2 _ _ _).trans hE.1.1) ?_)
  refine And.intro (by rw [L0, iZ_in (by decide)]; decide) ?_
  refine And.intro trivial (c_addTone (knd := 0) (num := (P 0).1) (st := (P 0).2) (note := i) (len := l) ((rb_n hC (by decide) (by decide) (by decide) (by decide) (by omega)).trans hE.2.1.1) L0 ((rb_n hC (by decide) (by decide) (by decide) (by decide) (by omega)).trans hE.2.2.1.1) rfl hC.1 hc (fun m' hR hF => And.intro trivial (h m' ?_)))
  refine ⟨hR, ⟨?_, ?_, ?_, ?_⟩, hC.2.2.1.pl hE.2.2.2.2.2.1.1 hl, hC.2.2.2.tr hF.fr⟩
  · rw [hF.1 4 (by decide) (by decide)]; exact hC.2.1.1
  · rw [hF.1 15 (by decide) (by decide)]; exact hC.2.1.2.1
  · rw [hF.1 16 (by decide) (by decide)]; exact hC.2.1.2.2.1
  · rw [hF.1 4 (by decide) (by decide)]; exact hC.2.1.2.2.2
theorem c_count {n t : Int} {x y : Int32} (hx : x = iZ n) (hy : y = iZ t) {s' : WS} (hC : CW m0 sc i false cap m s lf o a b) (hl : (s'.1.length : Int) = s.1.length + n) (hcur : s'.2.2 = s.2.2 + t) (hW : WOK s') (hcap : s'.1.length ≤ cap)
    (h : ∀ m', CB m0 sc i false cap m' s' lf o a b → K none m') : smC true 46 [vR (some (6, sc)), vI x, vI y] m K := by
  subst hx; subst hy
  refine smC_wp [some (vR (some (6, sc))), some (vI (iZ n)), some (vI (iZ t))] cd_46 [] 40 OK_46 (by decide) rfl rfl (Nat.le_of_ble_eq_true rfl) ?_
  refine And.intro trivial (h _ ?_)
  obtain ⟨⟨⟨r0, r1, r2, r3, r4⟩, r5, r6⟩, ⟨h1, h2, h3, h4⟩, hW', hF⟩ := hC
  refine ⟨⟨?_, ?_, ?_, (fun z => by cases z), hcap, r4.2⟩, ⟨?_, ?_, ?_, ?_⟩, hW, hF.tr ((Fr.st (by unfold AW; omega)).tr (Fr.st (by unfold AW; omega)))⟩
  · simp [gI_s, r0]
  · simp only [gI_s]; simp [r1]; rw [iZ_add, hl]
  · simp only [gI_s]; simp [r2]; rw [iZ_add, hcur]
  · simp [gI_s, h1]
  · simp [gI_s, h2]
  · simp [gI_s, h3]
  · simp [gI_s, h4]
theorem turns_loop (hE : EW m0 sc i nn T P) {bu : Bool} {t : Int} {many : Nat} (hm : many ≤ 64) : ∀ (n j : Nat) (m : Mem) (s : WS) (k : Int), j + n + 1 = many → k = (if (decide (j % 2 = 0)) = bu then 0 else 1) → CW m0 sc i kp cap m s lf o a b → s.1.length + n < cap →
    (∀ m', CW m0 sc i kp cap m' (apN i (altQ P T k n) s) lf o a b → smE true 77 69 [some (vR (some (4, 4))), some (vI (if bu then 1 else 0)), some (vI (iZ t)), some (vI (iZ many)), some (vI (iZ (many - 1)))] [] m' K) →
    smE true 77 26 [some (vR (some (4, 4))), some (vI (if bu then 1 else 0)), some (vI (iZ t)), some (vI (iZ many)), some (vI (iZ j))] [] m K := by
  have hT := hE.Tr
  intro n
  induction n with
  | zero =>
    intro j m s k hj hk hC hc h
    refine wp1_ok (by decide) OK_77 (cc := cd_77) rfl (stops := [26, 69]) (f := 40) ?_
    refine And.intro (fun z => ?_) (fun z => ?_)
    · have := h m hC
      rw [show ((many : Int) - 1) = j by omega] at this
      exact And.intro trivial this
    · rw [L1, iZ_add, iZ_le (by constructor <;> omega) (by constructor <;> omega)] at z
      omega
  | succ n ih =>
    intro j m s k hj hk hC hc h
    refine wp1_ok (by decide) OK_77 (cc := cd_77) rfl (stops := [26, 69]) (f := 40) ?_
    refine And.intro (fun z => ?_) (fun z => ?_)
    · rw [L1, iZ_add, iZ_le (by constructor <;> omega) (by constructor <;> omega)] at z
      omega
    refine And.intro (by decide) ?_
    have hk2 : 1 - k = (if (decide ((j + 1) % 2 = 0)) = bu then 0 else 1) := by
      rw [hk]
      have : decide ((j + 1) % 2 = 0) = !decide (j % 2 = 0) := by
        by_cases q : j % 2 = 0
        · have q2 : ¬ (j + 1) % 2 = 0 := by omega
          simp [q, q2]
        · have q2 : (j + 1) % 2 = 0 := by omega
          simp [q, q2]
      rw [this]
      cases bu <;> cases decide (j % 2 = 0) <;> decide
    have go : ∀ v : Int32, v = iZ k → ∀ m', CW m0 sc i kp cap m' (plN i k (P k) T s) lf o a b → smE true 77 26 [some (vR (some (4, 4))), some (vI (if bu then 1 else 0)), some (vI (iZ t)), some (vI (iZ many)), some (vI (iZ j + 1))] [] m' K := by
      intro v hv m' C'
      rw [L1, iZ_add, show ((j : Int) + 1) = ((j + 1 : Nat) : Int) by omega]
      exact ih (j + 1) m' _ (1 - k) (by omega) hk2 C' (by simp only [plN, List.length_cons]; omega) h
    refine And.intro (fun z => ?_) (fun z => ?_)
    · rw [L2, L0, iZ_rem (by constructor <;> omega) (by decide) (by omega) (by decide), iZ_eq (by constructor <;> omega) (by decide)] at z
      have hd : decide (j % 2 = 0) = false := by simp; omega
      rw [hd] at hk
      cases bu with
      | true =>
        have hk : k = 1 := hk
        subst hk
        refine And.intro (fun _ => ?_) (fun q => absurd (show (0 : Int32) = 1 from q) (by decide))
        refine And.intro trivial (c_play hE L1 (rdT hE hC) (by decide) hC (by omega) (by omega) (fun m' C' => ?_))
        exact And.intro trivial (go 1 L1 m' C')
      | false =>
        have hk : k = 0 := hk
        subst hk
        refine And.intro (fun q => absurd rfl (show ¬ (0 : Int32) = 0 from q)) (fun _ => ?_)
        refine And.intro trivial (c_play hE L0 (rdT hE hC) (by decide) hC (by omega) (by omega) (fun m' C' => ?_))
        exact And.intro trivial (go 0 L0 m' C')
    · rw [L2, L0, iZ_rem (by constructor <;> omega) (by decide) (by omega) (by decide), iZ_eq (by constructor <;> omega) (by decide)] at z
      have hd : decide (j % 2 = 0) = true := by simp; omega
      rw [hd] at hk
      cases bu with
      | true =>
        have hk : k = 0 := hk
        subst hk
        refine And.intro (fun q => absurd rfl (show ¬ (1 : Int32) = 1 from q)) (fun _ => ?_)
        refine And.intro trivial (c_play hE L0 (rdT hE hC) (by decide) hC (by omega) (by omega) (fun m' C' => ?_))
        exact And.intro trivial (go 0 L0 m' C')
      | false =>
        have hk : k = 1 := hk
        subst hk
        refine And.intro (fun _ => ?_) (fun q => absurd (show (1 : Int32) = 0 from q) (by decide))
        refine And.intro trivial (c_play hE L1 (rdT hE hC) (by decide) hC (by omega) (by omega) (fun m' C' => ?_))
        exact And.intro trivial (go 1 L1 m' C')
theorem c_addTurns (hE : EW m0 sc i nn T P) {bu : Bool} {t : Int} {x y : Int32} (hx : x = (if bu then 1 else 0)) (hy : y = iZ t) (ht : -1000000 ≤ t ∧ t ≤ 1000000) (hC : CW m0 sc i kp cap m s lf o a b) (hcap : s.1.length + 64 ≤ cap)
    (h0 : fitN T t bu = 0 → K (some (vI 0)) m)
    (h1 : fitN T t bu ≠ 0 → ∀ m', CW m0 sc i kp cap m' (apN i (trQ P T bu (fitN T t bu) t) s) lf o a b → K (some (vI 1)) m') : smC true 77 [vR (some (4, 4)), vI x, vI y] m K := by
  subst hx; subst hy
  have hT := hE.Tr
  have hf := fitN_rng (t := t) (bu := bu) (T := T) (by omega)
  have hle := fitN_le (t := t) (bu := bu) (T := T) (by omega)
  refine smC_wp [some (vR (some (4, 4))), some (vI (if bu then 1 else 0)), some (vI (iZ t)), none, none] cd_77 [26, 90] 40 OK_77 (by decide) rfl rfl (Nat.le_of_ble_eq_true rfl) ?_
  refine And.intro trivial (c_turnsIn (md := true) rfl rfl (rdT hE hC) (by omega) (by constructor <;> omega) ?_)
  refine And.intro (fun z => ?_) (fun z => ?_)
  · rw [L0, iZ_eq (by constructor <;> omega) (by decide)] at z
    have h1 := h1 z
    have hle := hle z
    generalize hF : fitN T t bu = f at *
    obtain ⟨N, rfl⟩ : ∃ N : Nat, f = (N : Int) := ⟨f.toNat, by omega⟩
    have eN : ((N : Int) * T) = ((N : Int) - 1) * T + T := by rw [Int.sub_mul]; omega
    have b1 := mulB (show (0 : Int) ≤ (N : Int) - 1 ∧ (N : Int) - 1 ≤ 63 by omega) (show (0 : Int) ≤ T ∧ T ≤ 2000 by omega)
    have el : (((N : Int) - 1).toNat : Int) = (N : Int) - 1 := by omega
    have fin : ∀ m' x4, CB m0 sc i kp cap m' (apN i (altQ P T (if bu then 0 else 1) ((N : Int) - 1).toNat) s) lf o a b → smE true 77 90 [some (vR (some (4, 4))), some (vI (if bu then 1 else 0)), some (vI (iZ t)), some (vI (iZ N)), x4] [] m' K := by
      intro m' x4 C'
      refine wp_ok (by decide) OK_77 (cc := cd_77) rfl (stops := []) 40 _ _ _ _ ?_
      have eT : gI m' 4 4 10 = iZ T := (rb_n C' (by decide) (by decide) (by decide) (by decide) (by omega)).trans hE.2.1.2
      refine And.intro trivial (c_play0B hE (l := t - (N - 1) * T) (by rw [eT, L1, iZ_sub, iZ_mul, iZ_sub]) C' (by omega) (by rw [apN_len, altQ_len]; omega) (fun m2 C2 => ?_))
      refine And.intro (Or.inr rfl) (h1 m2 ?_)
      unfold trQ
      rw [apN_app]
      exact C2
    refine Exists.intro _ (And.intro (rdS hE hC) ?_)
    have hkp := hC.1.1.1
    cases kp with
    | true =>
      refine And.intro (fun q => absurd (hkp.symm.trans q) (by decide)) (fun _ => ?_)
      refine And.intro trivial ?_
      refine turns_loop hE (many := N) (t := t) (bu := bu) (by omega) ((N : Int) - 1).toNat 0 m s (if bu then 0 else 1) (by omega) (by cases bu <;> rfl) hC (by omega) (fun m' C' => ?_)
      refine wp1_ok (by decide) OK_77 (cc := cd_77) rfl (stops := [90]) (f := 40) ?_
      exact And.intro trivial (fin m' _ C'.cb)
    | false =>
      refine And.intro (fun _ => ?_) (fun q => absurd hkp q)
      refine Exists.intro _ (And.intro (rdS hE hC) ?_)
      refine And.intro trivial (c_count (n := (N : Int) - 1) (t := ((N : Int) - 1) * T) (s' := apN i (altQ P T (if bu then 0 else 1) ((N : Int) - 1).toNat) s) (by rw [L1, iZ_sub]) (by rw [rdT hE hC, L1, iZ_sub, iZ_mul]) hC ?_ ?_ ?_ ?_ (fun m' C' => ?_))
      · rw [apN_len, altQ_len]; omega
      · rw [altQ_cur, el]
      · refine hC.2.2.1.ap (fun x hx => ?_)
        have := altQ_mem _ _ (by cases bu <;> decide) x hx
        rw [this.2.1, this.2.2]
        refine ⟨?_, by omega, by omega⟩
        rcases this.1 with q | q <;> rw [q]
        · exact hE.2.2.2.2.2.1.1
        · exact hE.2.2.2.2.2.1.2.1
      · rw [apN_len, altQ_len]; omega
      · exact And.intro trivial (fin m' _ C')
  · rw [L0, iZ_eq (by constructor <;> omega) (by decide)] at z
    exact And.intro (Or.inl rfl) (h0 z)
end TRILL
