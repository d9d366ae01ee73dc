/-! THE CONSTRUCTORS of the class -/
/-- cell n's fixed references stand -/
def FQ (m : Mem) (n : Nat) : Prop := ∀ k a, FR (rgn m n) k n = some a → (rgn m n = 11 → k < 49) → gP m (rgn m n) n k = some a
/-- cells that were there are as they were, but for cell c -/
def KX (m m' : Mem) (c : Nat) : Prop := nX m ≤ nX m' ∧ ∀ n, n < nX m → n ≠ c → rgn m' n = rgn m n ∧ ∀ t k, gI m' t n k = gI m t n k ∧ gP m' t n k = gP m t n k ∧ gL m' t n = gL m t n
theorem KX.rf (m : Mem) (c : Nat) : KX m m c := ⟨Nat.le_refl _, fun _ _ _ => ⟨rfl, fun _ _ => ⟨rfl, rfl, rfl⟩⟩⟩
theorem KX.tr {a b d : Mem} {c c' : Nat} (h : KX a b c) (h2 : KX b d c') (hc : c' = c ∨ nX a ≤ c') : KX a d c := by
  refine ⟨Nat.le_trans h.1 h2.1, fun n hn hc' => ?_⟩
  have h1 := h.1
  obtain ⟨p1, p2⟩ := h.2 n hn hc'
  obtain ⟨q1, q2⟩ := h2.2 n (by omega) (by omega)
  exact ⟨q1.trans p1, fun t k => ⟨(q2 t k).1.trans (p2 t k).1, (q2 t k).2.1.trans (p2 t k).2.1, (q2 t k).2.2.trans (p2 t k).2.2⟩⟩
theorem KX.al {m : Mem} {t z c : Nat} : KX m (al m t z) c := by
  refine ⟨Nat.le_succ _, fun n hn _ => ⟨?_, fun t' k => ⟨?_, ?_, ?_⟩⟩⟩
  · show (if n = nX m then t else rgn m n) = _
    rw [if_neg (by omega)]
  · exact (FX.al (A := N3) (B := N3)).2.1 t' n k hn (fun q => q)
  · exact (FX.al (A := N3) (B := N3)).2.2.1 t' n k hn (fun q => q)
  · exact (FX.al (A := N3) (B := N3)).2.2.2 t' n hn
theorem KX.sI {m : Mem} {t c k : Nat} {v : Int32} : KX m (sI m t c k v) c := ⟨Nat.le_refl _, fun n _ hc => ⟨rfl, fun t' k' => ⟨by rw [gI_s, if_neg (by omega)], rfl, rfl⟩⟩⟩
theorem KX.sP {m : Mem} {t c k : Nat} {v : Option Rf} : KX m (sP m t c k v) c := ⟨Nat.le_refl _, fun n _ hc => ⟨rfl, fun t' k' => ⟨rfl, by rw [gP_s, if_neg (by omega)], rfl⟩⟩⟩
theorem FQ.kx {m m' : Mem} {c n : Nat} (h : FQ m n) (F : KX m m' c) (hn : n < nX m) (hc : n ≠ c) : FQ m' n := by
  obtain ⟨p1, p2⟩ := F.2 n hn hc
  intro k a h1 h2
  rw [p1] at h1 h2 ⊢
  rw [(p2 _ k).2.1]
  exact h k a h1 h2
theorem FQ.no {m : Mem} {n : Nat} (h : ∀ k, FR (rgn m n) k n = none) : FQ m n := fun k a h1 _ => by rw [h k] at h1; cases h1
theorem rgn_new (m : Mem) (t z : Nat) : rgn (al m t z) (nX m) = t := by
  show (if nX m = nX m then t else rgn m (nX m)) = t
  rw [if_pos rfl]
theorem gI_new0 (m : Mem) (t z t' k : Nat) (h : t' < 60) : gI (al m t z) t' (nX m) k = 0 := by
  show (if nX m = nX m then (if t' < 60 then 0 else gI m t' (nX m) k) else gI m t' (nX m) k) = 0
  rw [if_pos rfl, if_pos h]
theorem gP_new0 (m : Mem) (t z t' k : Nat) : gP (al m t z) t' (nX m) k = none := by
  show (if nX m = nX m then none else gP m t' (nX m) k) = none
  rw [if_pos rfl]
theorem gL_new0 (m : Mem) (t z t' : Nat) (h : t' < 60) : gL (al m t z) t' (nX m) = z := by
  show (if nX m = nX m then (if t' < 60 then z else gL m t' (nX m)) else gL m t' (nX m)) = z
  rw [if_pos rfl, if_pos h]
theorem smC_ext {md : Bool} {y : Nat} {as : List SV} {m : Mem} {K : Option SV → Mem → Prop} (h : smC md y as m (fun v m' => Ext m m' → K v m')) : smC md y as m K := by
  intro h1 h2 h3
  obtain ⟨v, M', hK, hx, r⟩ := h h1 h2 h3
  exact ⟨v, M', hK hx, hx, r⟩
theorem nX_sI (m : Mem) (t n k : Nat) (v : Int32) : nX (sI m t n k v) = nX m := rfl
theorem nX_sP (m : Mem) (t n k : Nat) (v : Option Rf) : nX (sP m t n k v) = nX m := rfl
theorem nX_al (m : Mem) (t z : Nat) : nX (al m t z) = nX m + 1 := rfl
theorem nS_sI (m : Mem) (t n k : Nat) (v : Int32) : nS (sI m t n k v) = nS m := rfl
theorem nS_sP (m : Mem) (t n k : Nat) (v : Option Rf) : nS (sP m t n k v) = nS m := rfl
theorem nS_al (m : Mem) (t z : Nat) : nS (al m t z) = nS m + z := rfl
theorem rgn_sI (m : Mem) (t n k : Nat) (v : Int32) (n' : Nat) : rgn (sI m t n k v) n' = rgn m n' := rfl
theorem rgn_sP (m : Mem) (t n k : Nat) (v : Option Rf) (n' : Nat) : rgn (sP m t n k v) n' = rgn m n' := rfl
theorem rgn_al (m : Mem) (t z n' : Nat) : rgn (al m t z) n' = if n' = nX m then t else rgn m n' := rfl
theorem gP_sI (m : Mem) (t n k : Nat) (v : Int32) (t' n' k' : Nat) : gP (sI m t n k v) t' n' k' = gP m t' n' k' := rfl
theorem gP_al (m : Mem) (t z t' n' k' : Nat) : gP (al m t z) t' n' k' = if n' = nX m then none else gP m t' n' k' := rfl
theorem gI_sPp (m : Mem) (t n k : Nat) (v : Option Rf) (t' n' k' : Nat) : gI (sP m t n k v) t' n' k' = gI m t' n' k' := rfl
theorem gI_al (m : Mem) (t z t' n' k' : Nat) : gI (al m t z) t' n' k' = if n' = nX m then (if t' < 60 then 0 else gI m t' n' k') else gI m t' n' k' := rfl
theorem gL_sI (m : Mem) (t n k : Nat) (v : Int32) (t' n' : Nat) : gL (sI m t n k v) t' n' = gL m t' n' := rfl
theorem gL_sP (m : Mem) (t n k : Nat) (v : Option Rf) (t' n' : Nat) : gL (sP m t n k v) t' n' = gL m t' n' := rfl
theorem gL_al (m : Mem) (t z t' n' : Nat) : gL (al m t z) t' n' = if n' = nX m then (if t' < 60 then z else gL m t' n') else gL m t' n' := rfl
section CTOR
variable {m : Mem} {K : Option SV → Mem → Prop} {c N : Nat}
theorem c_NoteI (hX : nX m = c + 1) (hr : rgn m c = 8) (hk : ∀ m', nX m' = c + 2 → nS m' = nS m + 4 → KX m m' c → (rgn m' c = 8 ∧ rgn m' (c + 1) = 9) → FQ m' c → FQ m' (c + 1) → K none m') : smC false 0 [vR (some (8, c))] m K := by
  refine smC_wp [some (vR (some (8, c)))] cd_0 [] 30 OK_0 (by decide) rfl rfl (Nat.le_of_ble_eq_true rfl) ?_
  refine And.intro ⟨by decide, rfl⟩ ?_
  refine And.intro trivial ?_
  have r1 : rgn (sP (al m 9 4) 8 c 8 (some (9, nX m))) c = 8 := ((KX.al (m := m) (t := 9) (z := 4) (c := c + 1)).2 c (by omega) (by omega)).1.trans hr
  have r2 : rgn (sP (al m 9 4) 8 c 8 (some (9, nX m))) (c + 1) = 9 := by rw [← hX]; exact rgn_new m 9 4
  refine hk _ (by show nX m + 1 = c + 2; omega) rfl (KX.al.tr KX.sP (Or.inl rfl)) ⟨r1, r2⟩ ?_ ?_
  · intro k a h1 _
    rw [r1] at h1 ⊢
    rw [gP_s]
    by_cases e : k = 8
    · subst e
      rw [if_pos ⟨rfl, rfl, rfl⟩, hX]
      exact h1
    · exfalso
      unfold FR at h1
      simp only at h1
      cases h1
  · refine FQ.no (fun k => ?_)
    rw [r2]; rfl
/-- a song, from its own cell on -/
theorem c_SongI (hX : nX m = N + 1) (hr : rgn m N = 10) (hk : ∀ m', nX m' = N + 101 → nS m' = nS m + 1149 → KX m m' N → (∀ n, N ≤ n → n < N + 101 → FQ m' n) → (gI m' 10 N 1 = 0 ∧ gI m' 10 N 3 = 0 ∧ gI m' 10 N 4 = 0) → rgn m' N = 10 → K none m') : smC false 51 [vR (some (10, N))] m K := by
  have loop : ∀ s i : Nat, i + s = 49 → ∀ m1, nX m1 = N + 3 + 2 * i → nS m1 = nS m + 169 + 20 * i → KX m m1 N → (rgn m1 N = 10 ∧ rgn m1 (N + 1) = 11 ∧ rgn m1 (N + 2) = 12) → (gP m1 10 N 0 = some (11, N + 1) ∧ gP m1 10 N 2 = some (12, N + 2)) → (gI m1 10 N 1 = 0 ∧ gI m1 10 N 3 = 0 ∧ gI m1 10 N 4 = 0) → (∀ i', i' < i → FQ m1 (N + 3 + 2 * i') ∧ FQ m1 (N + 4 + 2 * i') ∧ gP m1 11 (N + 1) i' = some (8, N + 3 + 2 * i')) →
      smE false 51 38 [some (vR (some (10, N))), some (vI (iZ (i : Nat)))] [] m1 K := by
    intro s
    induction s with
    | zero =>
      intro i ei m1 x1 y1 F1 rg rp ri hq
      have : i = 49 := by omega
      subst this
      refine wp1_ok (by decide) OK_51 (cc := cd_51) rfl (stops := [38]) (f := 40) ?_
      refine Exists.intro _ (And.intro rp.1 ?_)
      refine And.intro (fun _ => ?_) (fun z => absurd (by decide) z)
      refine And.intro trivial (hk m1 (by omega) (by omega) F1 (fun n hn hn2 => ?_) ri rg.1)
      by_cases e0 : n = N
      · subst e0
        intro k a h1 _
        rw [rg.1] at h1 ⊢
        unfold FR at h1
        simp only at h1
        split at h1
        · injection h1 with h1; rw [← h1]; exact rp.1
        · injection h1 with h1; rw [← h1]; exact rp.2
        · cases h1
      by_cases e1 : n = N + 1
      · subst e1
        intro k a h1 h2
        rw [rg.2.1] at h1 h2 ⊢
        have hk49 := h2 rfl
        have h1 : some (8, N + 1 + 2 + 2 * k) = some a := h1
        rw [← h1, (hq k hk49).2.2]
      by_cases e2 : n = N + 2
      · subst e2
        exact FQ.no (fun k => by rw [rg.2.2]; rfl)
      by_cases e3 : (n - N - 3) % 2 = 0
      · have := (hq ((n - N - 3) / 2) (by omega)).1
        rw [show N + 3 + 2 * ((n - N - 3) / 2) = n by omega] at this
        exact this
      · have := (hq ((n - N - 3) / 2) (by omega)).2.1
        rw [show N + 4 + 2 * ((n - N - 3) / 2) = n by omega] at this
        exact this
    | succ s ih =>
      intro i ei m1 x1 y1 F1 rg rp ri hq
      have ec : (iZ (i : Int)).toNatClampNeg = i := by rw [iZ_clamp (by constructor <;> omega)]; omega
      refine wp1_ok (by decide) OK_51 (cc := cd_51) rfl (stops := [38]) (f := 40) ?_
      refine Exists.intro _ (And.intro rp.1 ?_)
      refine And.intro (fun z => ?_) (fun _ => ?_)
      · have z : nI 49 ≤ iZ (i : Int) := z
        rw [iZ_nI, iZ_le (by decide) (by constructor <;> omega)] at z
        omega
      refine Exists.intro _ (And.intro rp.1 ?_)
      refine And.intro trivial (c_NoteI (c := nX m1) rfl (rgn_new m1 8 16) (fun m2 x2 y2 F2 r2 q2 q3 => ?_))
      have Fb : KX m1 m2 (nX m1) := (KX.al (m := m1) (t := 8) (z := 16) (c := nX m1)).tr F2 (Or.inl rfl)
      have Fn : KX m1 m2 (N + 1) := (KX.al (m := m1) (t := 8) (z := 16) (c := N + 1)).tr F2 (Or.inr (Nat.le_refl _))
      refine And.intro ((iZ_in (by constructor <;> omega)).mpr (by omega)) ?_
      refine And.intro trivial ?_
      rw [ec, L1, iZ_add]
      have y2' : nS m2 = nS m1 + 16 + 4 := y2
      have Fc : KX m2 (sP m2 11 (N + 1) i (some (8, nX m1))) (N + 1) := KX.sP
      have Fd : KX m1 (sP m2 11 (N + 1) i (some (8, nX m1))) (N + 1) := Fn.tr Fc (Or.inl rfl)
      have rge : ∀ n, n < nX m1 → rgn (sP m2 11 (N + 1) i (some (8, nX m1))) n = rgn m1 n := fun n hn => (Fb.2 n hn (by omega)).1
      have cN := Fd.2 N (by omega) (by omega)
      refine ih (i + 1) (by omega) _ (by show nX m2 = _; omega) (by show nS m2 = _; omega) (F1.tr Fd (Or.inr (by omega))) ⟨(rge N (by omega)).trans rg.1, (rge (N + 1) (by omega)).trans rg.2.1, (rge (N + 2) (by omega)).trans rg.2.2⟩ ⟨(cN.2 10 0).2.1.trans rp.1, (cN.2 10 2).2.1.trans rp.2⟩ ⟨(cN.2 10 1).1.trans ri.1, (cN.2 10 3).1.trans ri.2.1, (cN.2 10 4).1.trans ri.2.2⟩ (fun i' hi' => ?_)
      by_cases e : i' = i
      · subst e
        rw [show N + 3 + 2 * i' = nX m1 by omega, show N + 4 + 2 * i' = nX m1 + 1 by omega]
        exact ⟨q2.kx Fc (by omega) (by omega), q3.kx Fc (by omega) (by omega), by rw [gP_s, if_pos ⟨rfl, rfl, rfl⟩]⟩
      · have h0 := hq i' (by omega)
        refine ⟨h0.1.kx Fd (by omega) (by omega), h0.2.1.kx Fd (by omega) (by omega), ?_⟩
        rw [gP_s, if_neg (by omega), ((Fb.2 (N + 1) (by omega) (by omega)).2 11 i').2.1]
        exact h0.2.2
  refine smC_wp [some (vR (some (10, N))), none] cd_51 [38] 60 OK_51 (by decide) rfl rfl (Nat.le_of_ble_eq_true rfl) ?_
  refine And.intro ⟨by decide, rfl⟩ ?_
  refine And.intro ⟨by decide, rfl⟩ ?_
  refine And.intro trivial ?_
  refine loop 49 0 rfl _ ?_ ?_ ?_ ⟨?_, ?_, ?_⟩ ⟨?_, ?_⟩ ⟨?_, ?_, ?_⟩ (fun i' hi' => absurd hi' (Nat.not_lt_zero _))
  · simp [nX_sI, nX_sP, nX_al, Nat.add_assoc, hX]
  · simp [nS_sI, nS_sP, nS_al]
  · exact ((((((KX.al.tr KX.sP (Or.inl rfl)).tr KX.sI (Or.inl rfl)).tr (KX.al (c := N)) (Or.inl rfl)).tr KX.sP (Or.inl rfl)).tr KX.sI (Or.inl rfl)).tr KX.sI (Or.inl rfl))
  · simp [rgn_sI, rgn_sP, rgn_al, nX_sI, nX_sP, nX_al, Nat.add_assoc, hX, hr]
  · simp [rgn_sI, rgn_sP, rgn_al, nX_sI, nX_sP, nX_al, Nat.add_assoc, hX]
  · simp [rgn_sI, rgn_sP, rgn_al, nX_sI, nX_sP, nX_al, Nat.add_assoc, hX]
  · simp [gP_sI, gP_s, gP_al, nX_sI, nX_sP, nX_al, Nat.add_assoc, hX]
  · simp [gP_sI, gP_s, gP_al, nX_sI, nX_sP, nX_al, Nat.add_assoc, hX]
  · simp [gI_s, gI_sPp, gI_al, nX_sI, nX_sP, nX_al, Nat.add_assoc, hX]
  · simp [gI_s, gI_sPp, gI_al, nX_sI, nX_sP, nX_al, Nat.add_assoc, hX]
  · simp [gI_s, gI_sPp, gI_al, nX_sI, nX_sP, nX_al, Nat.add_assoc, hX]
/-- a score, from its own cell on -/
theorem c_ScoreI {kp : Bool} {x : Int32} (hx : x = (if kp then 1 else 0)) (hX : nX m = N + 1) (hr : rgn m N = 6) (hk : ∀ m', nX m' = N + 10 → nS m' ≤ nS m + 1000 → KX m m' N → (∀ n, N ≤ n → n < N + 10 → FQ m' n) →
    (gI m' 6 N 0 = (if kp then 1 else 0) ∧ gI m' 6 N 1 = 0 ∧ gI m' 6 N 6 = 0 ∧ gI m' 6 N 7 = 0 ∧ gI m' 6 N 10 = 0 ∧ gI m' 6 N 11 = 0) →
    (gP m' 6 N 2 = some (20, N + 6) ∧ gP m' 6 N 3 = some (20, N + 7) ∧ gP m' 6 N 4 = some (20, N + 8) ∧ gP m' 6 N 5 = some (20, N + 9)) →
    (gL m' 20 (N + 6) = (if kp then 146 else 0) ∧ gL m' 20 (N + 7) = (if kp then 146 else 0) ∧ gL m' 20 (N + 8) = (if kp then 146 else 0) ∧ gL m' 20 (N + 9) = (if kp then 146 else 0)) → K none m') : smC false 38 [vR (some (6, N)), vI x] m K := by
  subst hx
  -- the rows
  have key : ∀ (m1 : Mem) (z : Int32) (r : Nat), z.toNatClampNeg = r → ¬ z < 0 → r ≤ 146 → r = (if kp then 146 else 0) → nX m1 = N + 6 → nS m1 = nS m + 336 → KX m m1 N → (rgn m1 N = 6 ∧ rgn m1 (N + 1) = 7 ∧ rgn m1 (N + 2) = 13 ∧ rgn m1 (N + 3) = 14 ∧ rgn m1 (N + 4) = 15 ∧ rgn m1 (N + 5) = 16) →
      (gI m1 6 N 0 = (if kp then 1 else 0) ∧ gI m1 6 N 1 = 0 ∧ gI m1 6 N 6 = 0 ∧ gI m1 6 N 7 = 0 ∧ gI m1 6 N 10 = 0 ∧ gI m1 6 N 11 = 0) → (gP m1 6 N 12 = some (7, N + 1) ∧ gP m1 6 N 13 = some (13, N + 2) ∧ gP m1 6 N 14 = some (14, N + 3) ∧ gP m1 6 N 15 = some (15, N + 4) ∧ gP m1 6 N 16 = some (16, N + 5)) →
      smE false 38 96 [some (vR (some (6, N))), some (vI (if kp then 1 else 0)), none] [vI z] m1 K := by
    intro m1 z r hz hz0 hr2 her x1 y1 F1 rg ri rp
    refine wp_ok (by decide) OK_38 (cc := cd_38) rfl (stops := []) 40 _ _ _ _ ?_
    refine And.intro ⟨hz0, by omega⟩ ?_
    refine And.intro ⟨hz0, by omega⟩ ?_
    refine And.intro ⟨hz0, by omega⟩ ?_
    refine And.intro ⟨hz0, by omega⟩ ?_
    refine And.intro trivial ?_
    rw [hz]
    have F2 : KX m1 (sP (al (sP (al (sP (al (sP (al m1 20 r) 6 N 2 (some (20, nX m1))) 20 r) 6 N 3 (some (20, nX m1 + 1))) 20 r) 6 N 4 (some (20, nX m1 + 1 + 1))) 20 r) 6 N 5 (some (20, nX m1 + 1 + 1 + 1))) N :=
      (((((((KX.al.tr KX.sP (Or.inl rfl)).tr (KX.al (c := N)) (Or.inl rfl)).tr KX.sP (Or.inl rfl)).tr (KX.al (c := N)) (Or.inl rfl)).tr KX.sP (Or.inl rfl)).tr (KX.al (c := N)) (Or.inl rfl)).tr KX.sP (Or.inl rfl))
    have x2 : nX (sP (al (sP (al (sP (al (sP (al m1 20 r) 6 N 2 (some (20, nX m1))) 20 r) 6 N 3 (some (20, nX m1 + 1))) 20 r) 6 N 4 (some (20, nX m1 + 1 + 1))) 20 r) 6 N 5 (some (20, nX m1 + 1 + 1 + 1))) = N + 10 := by simp [nX_sP, nX_al, x1]
    have y2 : nS (sP (al (sP (al (sP (al (sP (al m1 20 r) 6 N 2 (some (20, nX m1))) 20 r) 6 N 3 (some (20, nX m1 + 1))) 20 r) 6 N 4 (some (20, nX m1 + 1 + 1))) 20 r) 6 N 5 (some (20, nX m1 + 1 + 1 + 1))) ≤ nS m + 1000 := by simp [nS_sP, nS_al]; omega
    have g2 : ∀ k, gI (sP (al (sP (al (sP (al (sP (al m1 20 r) 6 N 2 (some (20, nX m1))) 20 r) 6 N 3 (some (20, nX m1 + 1))) 20 r) 6 N 4 (some (20, nX m1 + 1 + 1))) 20 r) 6 N 5 (some (20, nX m1 + 1 + 1 + 1))) 6 N k = gI m1 6 N k := by intro k; simp [gI_sPp, gI_al, nX_sP, nX_al, x1, Nat.add_assoc]
    have p2 : ∀ k, k ≠ 2 → k ≠ 3 → k ≠ 4 → k ≠ 5 → gP (sP (al (sP (al (sP (al (sP (al m1 20 r) 6 N 2 (some (20, nX m1))) 20 r) 6 N 3 (some (20, nX m1 + 1))) 20 r) 6 N 4 (some (20, nX m1 + 1 + 1))) 20 r) 6 N 5 (some (20, nX m1 + 1 + 1 + 1))) 6 N k = gP m1 6 N k := by intro k h1 h2 h3 h4; simp [gP_s, gP_al, nX_sP, nX_al, x1, Nat.add_assoc, h1, h2, h3, h4]
    have q2 : gP (sP (al (sP (al (sP (al (sP (al m1 20 r) 6 N 2 (some (20, nX m1))) 20 r) 6 N 3 (some (20, nX m1 + 1))) 20 r) 6 N 4 (some (20, nX m1 + 1 + 1))) 20 r) 6 N 5 (some (20, nX m1 + 1 + 1 + 1))) 6 N 2 = some (20, N + 6) ∧ gP (sP (al (sP (al (sP (al (sP (al m1 20 r) 6 N 2 (some (20, nX m1))) 20 r) 6 N 3 (some (20, nX m1 + 1))) 20 r) 6 N 4 (some (20, nX m1 + 1 + 1))) 20 r) 6 N 5 (some (20, nX m1 + 1 + 1 + 1))) 6 N 3 = some (20, N + 7) ∧ gP (sP (al (sP (al (sP (al (sP (al m1 20 r) 6 N 2 (some (20, nX m1))) 20 r) 6 N 3 (some (20, nX m1 + 1))) 20 r) 6 N 4 (some (20, nX m1 + 1 + 1))) 20 r) 6 N 5 (some (20, nX m1 + 1 + 1 + 1))) 6 N 4 = some (20, N + 8) ∧ gP (sP (al (sP (al (sP (al (sP (al m1 20 r) 6 N 2 (some (20, nX m1))) 20 r) 6 N 3 (some (20, nX m1 + 1))) 20 r) 6 N 4 (some (20, nX m1 + 1 + 1))) 20 r) 6 N 5 (some (20, nX m1 + 1 + 1 + 1))) 6 N 5 = some (20, N + 9) := by
      refine ⟨?_, ?_, ?_, ?_⟩ <;> simp [gP_s, gP_al, nX_sP, nX_al, x1, Nat.add_assoc]
    have l2 : ∀ j, N + 6 ≤ j → j < N + 10 → gL (sP (al (sP (al (sP (al (sP (al m1 20 r) 6 N 2 (some (20, nX m1))) 20 r) 6 N 3 (some (20, nX m1 + 1))) 20 r) 6 N 4 (some (20, nX m1 + 1 + 1))) 20 r) 6 N 5 (some (20, nX m1 + 1 + 1 + 1))) 20 j = r ∧ rgn (sP (al (sP (al (sP (al (sP (al m1 20 r) 6 N 2 (some (20, nX m1))) 20 r) 6 N 3 (some (20, nX m1 + 1))) 20 r) 6 N 4 (some (20, nX m1 + 1 + 1))) 20 r) 6 N 5 (some (20, nX m1 + 1 + 1 + 1))) j = 20 := by
      intro j h1 h2
      have hc : j = N + 6 ∨ j = N + 7 ∨ j = N + 8 ∨ j = N + 9 := by omega
      rcases hc with e | e | e | e <;> subst e <;> simp [gL_sP, gL_al, rgn_sP, rgn_al, nX_sP, nX_al, x1, Nat.add_assoc]
    have r2 : ∀ j, j < N + 6 → rgn (sP (al (sP (al (sP (al (sP (al m1 20 r) 6 N 2 (some (20, nX m1))) 20 r) 6 N 3 (some (20, nX m1 + 1))) 20 r) 6 N 4 (some (20, nX m1 + 1 + 1))) 20 r) 6 N 5 (some (20, nX m1 + 1 + 1 + 1))) j = rgn m1 j := by
      intro j hj
      simp only [rgn_sP, rgn_al, nX_sP, nX_al, x1]
      rw [if_neg (by omega), if_neg (by omega), if_neg (by omega), if_neg (by omega)]
    show K none (sP (al (sP (al (sP (al (sP (al m1 20 r) 6 N 2 (some (20, nX m1))) 20 r) 6 N 3 (some (20, nX m1 + 1))) 20 r) 6 N 4 (some (20, nX m1 + 1 + 1))) 20 r) 6 N 5 (some (20, nX m1 + 1 + 1 + 1)))
    generalize sP (al (sP (al (sP (al (sP (al m1 20 r) 6 N 2 (some (20, nX m1))) 20 r) 6 N 3 (some (20, nX m1 + 1))) 20 r) 6 N 4 (some (20, nX m1 + 1 + 1))) 20 r) 6 N 5 (some (20, nX m1 + 1 + 1 + 1)) = m2 at *
    refine hk m2 x2 y2 (F1.tr F2 (Or.inl rfl)) (fun n hn hn2 => ?_) ⟨(g2 0).trans ri.1, (g2 1).trans ri.2.1, (g2 6).trans ri.2.2.1, (g2 7).trans ri.2.2.2.1, (g2 10).trans ri.2.2.2.2.1, (g2 11).trans ri.2.2.2.2.2⟩ q2 ⟨(l2 _ (by omega) (by omega)).1.trans her, (l2 _ (by omega) (by omega)).1.trans her, (l2 _ (by omega) (by omega)).1.trans her, (l2 _ (by omega) (by omega)).1.trans her⟩
    have hc : n = N ∨ n = N + 1 ∨ n = N + 2 ∨ n = N + 3 ∨ n = N + 4 ∨ n = N + 5 ∨ N + 6 ≤ n := by omega
    rcases hc with e | e | e | e | e | e | e
    · subst e
      have rN : rgn m2 n = 6 := (r2 n (by omega)).trans rg.1
      intro k a h1 _
      rw [rN] at h1 ⊢
      unfold FR at h1
      simp only at h1
      split at h1
      · injection h1 with h1; rw [← h1, p2 12 (by decide) (by decide) (by decide) (by decide)]; exact rp.1
      · injection h1 with h1; rw [← h1, p2 13 (by decide) (by decide) (by decide) (by decide)]; exact rp.2.1
      · injection h1 with h1; rw [← h1, p2 14 (by decide) (by decide) (by decide) (by decide)]; exact rp.2.2.1
      · injection h1 with h1; rw [← h1, p2 15 (by decide) (by decide) (by decide) (by decide)]; exact rp.2.2.2.1
      · injection h1 with h1; rw [← h1, p2 16 (by decide) (by decide) (by decide) (by decide)]; exact rp.2.2.2.2
      · cases h1
    · subst e; exact FQ.no (fun k => by rw [(r2 _ (by omega)).trans rg.2.1]; rfl)
    · subst e; exact FQ.no (fun k => by rw [(r2 _ (by omega)).trans rg.2.2.1]; rfl)
    · subst e; exact FQ.no (fun k => by rw [(r2 _ (by omega)).trans rg.2.2.2.1]; rfl)
    · subst e; exact FQ.no (fun k => by rw [(r2 _ (by omega)).trans rg.2.2.2.2.1]; rfl)
    · subst e; exact FQ.no (fun k => by rw [(r2 _ (by omega)).trans rg.2.2.2.2.2]; rfl)
    · exact FQ.no (fun k => by rw [(l2 n e hn2).2]; rfl)
  -- the arrays
  have mid : ∀ m1 : Mem, m1.2 = m.2 → KX m m1 N → (gI m1 6 N 1 = 0 ∧ gI m1 6 N 6 = 0 ∧ gI m1 6 N 7 = 0 ∧ gI m1 6 N 10 = 0 ∧ gI m1 6 N 11 = 0) → smE false 38 39 [some (vR (some (6, N))), some (vI (if kp then 1 else 0)), none] [] m1 K := by
    intro m1 e2 F1 ri
    have x1 : nX m1 = N + 1 := by unfold nX; rw [e2]; exact hX
    have y1 : nS m1 = nS m := by unfold nS; rw [e2]
    have r1 : rgn m1 N = 6 := by unfold rgn; rw [e2]; exact hr
    refine wp_ok (by decide) OK_38 (cc := cd_38) rfl (stops := [80]) 60 _ _ _ _ ?_
    refine And.intro ⟨by decide, rfl⟩ ?_
    refine And.intro ⟨by decide, rfl⟩ ?_
    refine And.intro ⟨by decide, rfl⟩ ?_
    refine And.intro ⟨by decide, rfl⟩ ?_
    refine And.intro ⟨by decide, rfl⟩ ?_
    refine And.intro trivial ?_
    have at80 : ∀ m3 : Mem, nX m3 = N + 6 → nS m3 = nS m + 336 → KX m m3 N → (rgn m3 N = 6 ∧ rgn m3 (N + 1) = 7 ∧ rgn m3 (N + 2) = 13 ∧ rgn m3 (N + 3) = 14 ∧ rgn m3 (N + 4) = 15 ∧ rgn m3 (N + 5) = 16) →
        (∀ k, gI m3 6 N k = gI m1 6 N k) → (gP m3 6 N 12 = some (7, N + 1) ∧ gP m3 6 N 13 = some (13, N + 2) ∧ gP m3 6 N 14 = some (14, N + 3) ∧ gP m3 6 N 15 = some (15, N + 4) ∧ gP m3 6 N 16 = some (16, N + 5)) →
        smE false 38 80 [some (vR (some (6, N))), some (vI (if kp then 1 else 0)), none] [] m3 K := by
      intro m3 x3 y3 F3 rg g3 rp
      have fin : ∀ (z : Int32) (r : Nat), z.toNatClampNeg = r → ¬ z < 0 → r ≤ 146 → r = (if kp then 146 else 0) → smE false 38 96 [some (vR (some (6, N))), some (vI (if kp then 1 else 0)), none] [vI z] (sI m3 6 N 0 (if kp then 1 else 0)) K := fun z r h1 h2 h3 h4 =>
        key _ z r h1 h2 h3 h4 x3 y3 (F3.tr KX.sI (Or.inl rfl)) rg ⟨by rw [gI_s, if_pos ⟨rfl, rfl, rfl⟩], by rw [gI_s, if_neg (by omega), g3]; exact ri.1, by rw [gI_s, if_neg (by omega), g3]; exact ri.2.1, by rw [gI_s, if_neg (by omega), g3]; exact ri.2.2.1, by rw [gI_s, if_neg (by omega), g3]; exact ri.2.2.2.1, by rw [gI_s, if_neg (by omega), g3]; exact ri.2.2.2.2⟩ rp
      refine wp_ok (by decide) OK_38 (cc := cd_38) rfl (stops := [96]) 30 _ _ _ _ ?_
      cases kp with
      | true =>
        refine And.intro (Or.inr rfl) ?_
        refine And.intro (fun z => absurd z (by decide)) (fun _ => ?_)
        exact And.intro trivial (fin 146 146 (by decide) (by decide) (by decide) rfl)
      | false =>
        refine And.intro (Or.inl rfl) ?_
        refine And.intro (fun _ => ?_) (fun z => absurd rfl z)
        exact And.intro trivial (fin 0 0 (by decide) (by decide) (by decide) rfl)
    refine at80 _ ?_ ?_ ?_ ⟨?_, ?_, ?_, ?_, ?_, ?_⟩ ?_ ⟨?_, ?_, ?_, ?_, ?_⟩
    · simp [nX_sP, nX_al, x1]
    · simp [nS_sP, nS_al, y1]
    · exact F1.tr (((((((((KX.al.tr KX.sP (Or.inl rfl)).tr (KX.al (c := N)) (Or.inl rfl)).tr KX.sP (Or.inl rfl)).tr (KX.al (c := N)) (Or.inl rfl)).tr KX.sP (Or.inl rfl)).tr (KX.al (c := N)) (Or.inl rfl)).tr KX.sP (Or.inl rfl)).tr (KX.al (c := N)) (Or.inl rfl)).tr KX.sP (Or.inl rfl)) (Or.inl rfl)
    · simp [rgn_sP, rgn_al, nX_sP, nX_al, x1, Nat.add_assoc, r1]
    · simp [rgn_sP, rgn_al, nX_sP, nX_al, x1, Nat.add_assoc]
    · simp [rgn_sP, rgn_al, nX_sP, nX_al, x1, Nat.add_assoc]
    · simp [rgn_sP, rgn_al, nX_sP, nX_al, x1, Nat.add_assoc]
    · simp [rgn_sP, rgn_al, nX_sP, nX_al, x1, Nat.add_assoc]
    · simp [rgn_sP, rgn_al, nX_sP, nX_al, x1, Nat.add_assoc]
    · intro k; simp [gI_sPp, gI_al, nX_sP, nX_al, x1, Nat.add_assoc]
    · simp [gP_s, gP_al, nX_sP, nX_al, x1, Nat.add_assoc]
    · simp [gP_s, gP_al, nX_sP, nX_al, x1, Nat.add_assoc]
    · simp [gP_s, gP_al, nX_sP, nX_al, x1, Nat.add_assoc]
    · simp [gP_s, gP_al, nX_sP, nX_al, x1, Nat.add_assoc]
    · simp [gP_s, gP_al, nX_sP, nX_al, x1, Nat.add_assoc]
  refine smC_wp [some (vR (some (6, N))), some (vI (if kp then 1 else 0)), none] cd_38 [39] 60 OK_38 (by decide) rfl rfl (Nat.le_of_ble_eq_true rfl) ?_
  refine And.intro (Or.inl rfl) ?_
  refine And.intro trivial (mid _ rfl ?_ ⟨?_, ?_, ?_, ?_, ?_⟩)
  · exact ((((((KX.sI.tr KX.sI (Or.inl rfl)).tr KX.sI (Or.inl rfl)).tr KX.sI (Or.inl rfl)).tr KX.sI (Or.inl rfl)).tr KX.sI (Or.inl rfl)).tr KX.sI (Or.inl rfl))
  all_goals (simp only [gI_s]; simp)
end CTOR
