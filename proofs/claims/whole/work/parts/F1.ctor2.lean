/-! THE CONSTRUCTORS of reader, writer and the class itself -/
def tm0 (k : Nat) : Int := [70, 32, 1, 1, 0, 100, 0].getD k 0
theorem vpd {x : Int32} {n : Nat} (h : 0 ≤ x.toInt ∧ x.toInt < n) : vp_in x n := vp_in_iff.mpr h
section CTOR2
variable {m : Mem} {K : Option SV → Mem → Prop}
theorem KX.fI {m m' : Mem} {c n : Nat} (F : KX m m' c) (hn : n < nX m) (hc : n ≠ c) (t k : Nat) : gI m' t n k = gI m t n k := ((F.2 n hn hc).2 t k).1
theorem KX.fP {m m' : Mem} {c n : Nat} (F : KX m m' c) (hn : n < nX m) (hc : n ≠ c) (t k : Nat) : gP m' t n k = gP m t n k := ((F.2 n hn hc).2 t k).2.1
theorem KX.fL {m m' : Mem} {c n : Nat} (F : KX m m' c) (hn : n < nX m) (hc : n ≠ c) (t : Nat) : gL m' t n = gL m t n := ((F.2 n hn hc).2 t 0).2.2
theorem KX.fR {m m' : Mem} {c n : Nat} (F : KX m m' c) (hn : n < nX m) (hc : n ≠ c) : rgn m' n = rgn m n := (F.2 n hn hc).1
theorem c_ReaderI (hX : nX m = 2) (hr : rgn m 1 = 1) (hk : ∀ m', nX m' = 4 → nS m' = nS m + 863 → KX m m' 1 → (∀ n, 1 ≤ n → n < 4 → FQ m' n) → gI m' 1 1 1 = 0 → (∀ k, gI m' 2 2 k = 0) → K none m') : smC false 8 [vR (some (1, 1))] m K := by
  have mid : ∀ m1 : Mem, nX m1 = 3 → nS m1 = nS m + 800 → KX m m1 1 → (rgn m1 1 = 1 ∧ rgn m1 2 = 2) → gI m1 1 1 1 = 0 → (∀ k, gI m1 2 2 k = 0) → gP m1 1 1 0 = some (2, 2) → smE false 8 86 [some (vR (some (1, 1)))] [] m1 K := by
    intro m1 x1 y1 F1 rg i1 i2 p0
    refine wp_ok (by decide) OK_8 (cc := cd_8) rfl (stops := []) 40 _ _ _ _ ?_
    refine And.intro ⟨by decide, rfl⟩ ?_
    refine And.intro trivial ?_
    have F2 : KX m1 (sI (sI (sP (al m1 3 63) 1 1 15 (some (3, nX m1))) 1 1 16 0) 1 1 17 (-1)) 1 := ((KX.al.tr KX.sP (Or.inl rfl)).tr KX.sI (Or.inl rfl)).tr KX.sI (Or.inl rfl)
    have r1 : rgn (sI (sI (sP (al m1 3 63) 1 1 15 (some (3, nX m1))) 1 1 16 0) 1 1 17 (-1)) 1 = 1 := by simp [rgn_sI, rgn_sP, rgn_al, x1, rg.1]
    have r2 : rgn (sI (sI (sP (al m1 3 63) 1 1 15 (some (3, nX m1))) 1 1 16 0) 1 1 17 (-1)) 2 = 2 := by simp [rgn_sI, rgn_sP, rgn_al, x1, rg.2]
    have r3 : rgn (sI (sI (sP (al m1 3 63) 1 1 15 (some (3, nX m1))) 1 1 16 0) 1 1 17 (-1)) 3 = 3 := by simp [rgn_sI, rgn_sP, rgn_al, x1]
    refine hk _ (by simp [nX_sI, nX_sP, nX_al, x1]) (by simp [nS_sI, nS_sP, nS_al, y1]) (F1.tr F2 (Or.inl rfl)) (fun n hn hn2 => ?_) ?_ (fun k => (F2.fI (n := 2) (by omega) (by decide) 2 k).trans (i2 k))
    · have hc : n = 1 ∨ n = 2 ∨ n = 3 := by omega
      rcases hc with e | e | e
      · subst e
        intro k a h1 _
        rw [r1] at h1 ⊢
        unfold FR at h1
        simp only at h1
        split at h1
        · injection h1 with h1; rw [← h1]
          simp [gP_sI, gP_s, gP_al, x1]; exact p0
        · injection h1 with h1; rw [← h1]
          simp [gP_sI, gP_s, gP_al, x1]
        · cases h1
      · subst e; exact FQ.no (fun k => by rw [r2]; rfl)
      · subst e; exact FQ.no (fun k => by rw [r3]; rfl)
    · simp [gI_s, gI_sPp, gI_al, x1]; exact i1
  refine smC_wp [some (vR (some (1, 1)))] cd_8 [86] 90 OK_8 (by decide) rfl rfl (Nat.le_of_ble_eq_true rfl) ?_
  refine And.intro ⟨by decide, rfl⟩ ?_
  refine And.intro (Or.inl rfl) ?_
  refine And.intro trivial (mid _ ?_ ?_ ?_ ⟨?_, ?_⟩ ?_ ?_ ?_)
  · simp [nX_sI, nX_sP, nX_al, hX]
  · simp [nS_sI, nS_sP, nS_al]
  · exact (((((((((((((((KX.al.tr KX.sP (Or.inl rfl)).tr KX.sI (Or.inl rfl)).tr KX.sI (Or.inl rfl)).tr KX.sI (Or.inl rfl)).tr KX.sI (Or.inl rfl)).tr KX.sI (Or.inl rfl)).tr KX.sI (Or.inl rfl)).tr KX.sI (Or.inl rfl)).tr KX.sI (Or.inl rfl)).tr KX.sP (Or.inl rfl)).tr KX.sI (Or.inl rfl)).tr KX.sI (Or.inl rfl)).tr KX.sI (Or.inl rfl)).tr KX.sI (Or.inl rfl)).tr KX.sI (Or.inl rfl))
  · simp [rgn_sI, rgn_sP, rgn_al, nX_sI, nX_sP, nX_al, hX, hr]
  · simp [rgn_sI, rgn_sP, rgn_al, nX_sI, nX_sP, nX_al, hX]
  · simp [gI_s, gI_sPp, gI_al, hX]
  · intro k; simp [gI_s, gI_sPp, gI_al, hX]
  · simp [gP_sI, gP_s, gP_al, nX_sI, nX_sP, nX_al, hX]
theorem c_WriterI (hX : nX m = 5) (hr : rgn m 4 = 4) (hk : ∀ m', nX m' = 27 → nS m' ≤ nS m + 2100 → KX m m' 4 → (∀ n, 4 ≤ n → n < 27 → FQ m' n) → (∀ k, k < 7 → gI m' 5 5 k = iZ (tm0 k)) → gI m' 4 4 3 = 0 →
    (gI m' 6 6 0 = 1 ∧ gI m' 6 6 1 = 0 ∧ gI m' 6 6 6 = 0 ∧ gI m' 6 6 7 = 0 ∧ gI m' 6 6 10 = 0 ∧ gI m' 6 6 11 = 0) → (gP m' 6 6 2 = some (20, 12) ∧ gP m' 6 6 3 = some (20, 13) ∧ gP m' 6 6 4 = some (20, 14) ∧ gP m' 6 6 5 = some (20, 15)) →
    (gL m' 20 12 = 146 ∧ gL m' 20 13 = 146 ∧ gL m' 20 14 = 146 ∧ gL m' 20 15 = 146) → gI m' 6 16 0 = 0 → K none m') : smC false 60 [vR (some (4, 4))] m K := by
  have last : ∀ m3 : Mem, nX m3 = 26 → nS m3 ≤ nS m + 2041 → KX m m3 4 → rgn m3 4 = 4 → (∀ n, 5 ≤ n → n < 26 → FQ m3 n) → (gP m3 4 4 0 = some (5, 5) ∧ gP m3 4 4 1 = some (6, 6) ∧ gP m3 4 4 2 = some (6, 16)) → (∀ k, k < 7 → gI m3 5 5 k = iZ (tm0 k)) →
      (gI m3 6 6 0 = 1 ∧ gI m3 6 6 1 = 0 ∧ gI m3 6 6 6 = 0 ∧ gI m3 6 6 7 = 0 ∧ gI m3 6 6 10 = 0 ∧ gI m3 6 6 11 = 0) → (gP m3 6 6 2 = some (20, 12) ∧ gP m3 6 6 3 = some (20, 13) ∧ gP m3 6 6 4 = some (20, 14) ∧ gP m3 6 6 5 = some (20, 15)) →
      (gL m3 20 12 = 146 ∧ gL m3 20 13 = 146 ∧ gL m3 20 14 = 146 ∧ gL m3 20 15 = 146) → gI m3 6 16 0 = 0 → smE false 60 68 [some (vR (some (4, 4)))] [] m3 K := by
    intro m3 x3 y3 F3 rg fq rp it i6 p6 l6 i16
    refine wp_ok (by decide) OK_60 (cc := cd_60) rfl (stops := []) 60 _ _ _ _ ?_
    refine And.intro (Or.inl rfl) ?_
    refine And.intro ⟨by decide, rfl⟩ ?_
    refine And.intro (Or.inl rfl) ?_
    refine And.intro trivial ?_
    have F4 : KX m3 (sI (sP (al (sI (sI (sP (sP (sI (sI (sP (sP (sI m3 4 4 3 0) 4 4 4 none) 4 4 5 none) 4 4 6 0) 4 4 7 0) 4 4 8 none) 4 4 9 none) 4 4 10 0) 4 4 11 0) 17 5) 4 4 12 (some (17, nX m3))) 4 4 13 0) 4 :=
      (((((((((((KX.sI.tr KX.sP (Or.inl rfl)).tr KX.sP (Or.inl rfl)).tr KX.sI (Or.inl rfl)).tr KX.sI (Or.inl rfl)).tr KX.sP (Or.inl rfl)).tr KX.sP (Or.inl rfl)).tr KX.sI (Or.inl rfl)).tr KX.sI (Or.inl rfl)).tr (KX.al (c := 4)) (Or.inl rfl)).tr KX.sP (Or.inl rfl)).tr KX.sI (Or.inl rfl))
    have x4 : nX (sI (sP (al (sI (sI (sP (sP (sI (sI (sP (sP (sI m3 4 4 3 0) 4 4 4 none) 4 4 5 none) 4 4 6 0) 4 4 7 0) 4 4 8 none) 4 4 9 none) 4 4 10 0) 4 4 11 0) 17 5) 4 4 12 (some (17, nX m3))) 4 4 13 0) = 27 := by simp [nX_sI, nX_sP, nX_al, x3]
    have y4 : nS (sI (sP (al (sI (sI (sP (sP (sI (sI (sP (sP (sI m3 4 4 3 0) 4 4 4 none) 4 4 5 none) 4 4 6 0) 4 4 7 0) 4 4 8 none) 4 4 9 none) 4 4 10 0) 4 4 11 0) 17 5) 4 4 12 (some (17, nX m3))) 4 4 13 0) = nS m3 + 5 := by simp [nS_sI, nS_sP, nS_al]
    have r4 : rgn (sI (sP (al (sI (sI (sP (sP (sI (sI (sP (sP (sI m3 4 4 3 0) 4 4 4 none) 4 4 5 none) 4 4 6 0) 4 4 7 0) 4 4 8 none) 4 4 9 none) 4 4 10 0) 4 4 11 0) 17 5) 4 4 12 (some (17, nX m3))) 4 4 13 0) 4 = 4 ∧ rgn (sI (sP (al (sI (sI (sP (sP (sI (sI (sP (sP (sI m3 4 4 3 0) 4 4 4 none) 4 4 5 none) 4 4 6 0) 4 4 7 0) 4 4 8 none) 4 4 9 none) 4 4 10 0) 4 4 11 0) 17 5) 4 4 12 (some (17, nX m3))) 4 4 13 0) 26 = 17 := by
      constructor
      · simp [rgn_sI, rgn_sP, rgn_al, nX_sI, nX_sP, x3, rg]
      · simp [rgn_sI, rgn_sP, rgn_al, nX_sI, nX_sP, x3]
    have p4 : ∀ k, k = 0 ∨ k = 1 ∨ k = 2 → gP (sI (sP (al (sI (sI (sP (sP (sI (sI (sP (sP (sI m3 4 4 3 0) 4 4 4 none) 4 4 5 none) 4 4 6 0) 4 4 7 0) 4 4 8 none) 4 4 9 none) 4 4 10 0) 4 4 11 0) 17 5) 4 4 12 (some (17, nX m3))) 4 4 13 0) 4 4 k = gP m3 4 4 k := by
      rintro k (e | e | e) <;> subst e <;> simp [gP_sI, gP_s, gP_al, nX_sI, nX_sP, x3]
    have p12 : gP (sI (sP (al (sI (sI (sP (sP (sI (sI (sP (sP (sI m3 4 4 3 0) 4 4 4 none) 4 4 5 none) 4 4 6 0) 4 4 7 0) 4 4 8 none) 4 4 9 none) 4 4 10 0) 4 4 11 0) 17 5) 4 4 12 (some (17, nX m3))) 4 4 13 0) 4 4 12 = some (17, 26) := by simp [gP_sI, gP_s, x3]
    have i3 : gI (sI (sP (al (sI (sI (sP (sP (sI (sI (sP (sP (sI m3 4 4 3 0) 4 4 4 none) 4 4 5 none) 4 4 6 0) 4 4 7 0) 4 4 8 none) 4 4 9 none) 4 4 10 0) 4 4 11 0) 17 5) 4 4 12 (some (17, nX m3))) 4 4 13 0) 4 4 3 = 0 := by simp [gI_s, gI_sPp, gI_al, nX_sI, nX_sP, x3]
    show K none (sI (sP (al (sI (sI (sP (sP (sI (sI (sP (sP (sI m3 4 4 3 0) 4 4 4 none) 4 4 5 none) 4 4 6 0) 4 4 7 0) 4 4 8 none) 4 4 9 none) 4 4 10 0) 4 4 11 0) 17 5) 4 4 12 (some (17, nX m3))) 4 4 13 0)
    generalize sI (sP (al (sI (sI (sP (sP (sI (sI (sP (sP (sI m3 4 4 3 0) 4 4 4 none) 4 4 5 none) 4 4 6 0) 4 4 7 0) 4 4 8 none) 4 4 9 none) 4 4 10 0) 4 4 11 0) 17 5) 4 4 12 (some (17, nX m3))) 4 4 13 0 = m4 at *
    have fI : ∀ {n t k : Nat}, n < 26 → n ≠ 4 → gI m4 t n k = gI m3 t n k := fun h1 h2 => F4.fI (by omega) h2 _ _
    have fP : ∀ {n t k : Nat}, n < 26 → n ≠ 4 → gP m4 t n k = gP m3 t n k := fun h1 h2 => F4.fP (by omega) h2 _ _
    have fL : ∀ {n t : Nat}, n < 26 → n ≠ 4 → gL m4 t n = gL m3 t n := fun h1 h2 => F4.fL (by omega) h2 _
    refine hk m4 x4 (by omega) (F3.tr F4 (Or.inl rfl)) (fun n hn hn2 => ?_) (fun k hk => (fI (by decide) (by decide)).trans (it k hk)) i3 ⟨(fI (by decide) (by decide)).trans i6.1, (fI (by decide) (by decide)).trans i6.2.1, (fI (by decide) (by decide)).trans i6.2.2.1, (fI (by decide) (by decide)).trans i6.2.2.2.1, (fI (by decide) (by decide)).trans i6.2.2.2.2.1, (fI (by decide) (by decide)).trans i6.2.2.2.2.2⟩ ⟨(fP (by decide) (by decide)).trans p6.1, (fP (by decide) (by decide)).trans p6.2.1, (fP (by decide) (by decide)).trans p6.2.2.1, (fP (by decide) (by decide)).trans p6.2.2.2⟩ ⟨(fL (by decide) (by decide)).trans l6.1, (fL (by decide) (by decide)).trans l6.2.1, (fL (by decide) (by decide)).trans l6.2.2.1, (fL (by decide) (by decide)).trans l6.2.2.2⟩ ((fI (by decide) (by decide)).trans i16)
    have hc : n = 4 ∨ n = 26 ∨ (5 ≤ n ∧ n < 26) := by omega
    rcases hc with e | e | e
    · subst e
      intro k a h1 _
      rw [r4.1] at h1 ⊢
      unfold FR at h1
      simp only at h1
      split at h1
      · injection h1 with h1; rw [← h1, p4 0 (by decide)]; exact rp.1
      · injection h1 with h1; rw [← h1, p4 1 (by decide)]; exact rp.2.1
      · injection h1 with h1; rw [← h1, p4 2 (by decide)]; exact rp.2.2
      · injection h1 with h1; rw [← h1]; exact p12
      · cases h1
    · subst e; exact FQ.no (fun k => by rw [r4.2]; rfl)
    · exact (fq n e.1 e.2).kx F4 (by omega) (by omega)
  have mid : ∀ m1 : Mem, nX m1 = 6 → nS m1 = nS m + 7 → KX m m1 4 → (rgn m1 4 = 4 ∧ rgn m1 5 = 5) → (∀ k, k < 7 → gI m1 5 5 k = iZ (tm0 k)) → gP m1 4 4 0 = some (5, 5) → smE false 60 44 [some (vR (some (4, 4)))] [] m1 K := by
    intro m1 x1 y1 F1 rg it p0
    refine wp_ok (by decide) OK_60 (cc := cd_60) rfl (stops := [56]) 40 _ _ _ _ ?_
    have xa : nX (al m1 6 17) = 6 + 1 := by rw [nX_al, x1]
    have ra : rgn (al m1 6 17) 6 = 6 := by rw [rgn_al, x1, if_pos rfl]
    have va : (vR (some (6, nX m1)) : SV) = vR (some (6, 6)) := by rw [x1]
    show True ∧ smC false 38 [vR (some (6, nX m1)), vI 1] (al m1 6 17) _
    rw [x1]
    refine And.intro trivial (c_ScoreI (N := 6) (kp := true) rfl xa ra (fun m2 x2 y2 F2 fq2 i2 p2 l2 => ?_))
    have F2' : KX m1 m2 4 := (KX.al (c := 4)).tr F2 (Or.inr (by omega))
    have y2' : nS m2 ≤ nS m1 + 17 + 1000 := y2
    refine And.intro trivial ?_
    have fb : ∀ {n t k : Nat}, n < 6 → gI m2 t n k = gI m1 t n k ∧ gP m2 t n k = gP m1 t n k ∧ rgn m2 n = rgn m1 n := fun {n t k} h1 => by
      have F3 : KX m1 m2 6 := (KX.al (c := 6)).tr F2 (Or.inl rfl)
      exact ⟨F3.fI (by omega) (by omega) _ _, F3.fP (by omega) (by omega) _ _, F3.fR (by omega) (by omega)⟩
    have at56 : ∀ m3 : Mem, m3 = sP m2 4 4 1 (some (6, 6)) → smE false 60 56 [some (vR (some (4, 4)))] [] m3 K := by
      intro m3 e3
      have x3 : nX m3 = 16 := by rw [e3, nX_sP, x2]
      have F23 : KX m2 m3 4 := by rw [e3]; exact KX.sP
      refine wp_ok (by decide) OK_60 (cc := cd_60) rfl (stops := [68]) 40 _ _ _ _ ?_
      have xb : nX (al m3 6 17) = 16 + 1 := by rw [nX_al, x3]
      have rb : rgn (al m3 6 17) 16 = 6 := by rw [rgn_al, x3, if_pos rfl]
      show True ∧ smC false 38 [vR (some (6, nX m3)), vI 0] (al m3 6 17) _
      rw [x3]
      refine And.intro trivial (c_ScoreI (N := 16) (kp := false) rfl xb rb (fun m4 x4 y4 F4 fq4 i4 p4 l4 => ?_))
      have y4' : nS m4 ≤ nS m3 + 17 + 1000 := y4
      have y3 : nS m3 = nS m2 := by rw [e3, nS_sP]
      have F34 : KX m3 m4 16 := (KX.al (c := 16)).tr F4 (Or.inl rfl)
      have F34' : KX m3 m4 4 := (KX.al (c := 4)).tr F4 (Or.inr (by omega))
      refine And.intro trivial ?_
      have F45 : KX m4 (sP m4 4 4 2 (some (6, 16))) 4 := KX.sP
      have F25 : KX m2 (sP m4 4 4 2 (some (6, 16))) 4 := (F23.tr F34' (Or.inl rfl)).tr F45 (Or.inl rfl)
      have F35 : KX m3 (sP m4 4 4 2 (some (6, 16))) 4 := F34'.tr F45 (Or.inl rfl)
      refine last _ x4 (by show nS m4 ≤ _; omega) ((F1.tr F2' (Or.inl rfl)).tr F25 (Or.inl rfl)) ?_ (fun n hn hn2 => ?_) ⟨?_, ?_, ?_⟩ (fun k hk => ?_) ?_ ?_ ?_ ?_
      · show rgn m4 4 = 4
        rw [F34.fR (by omega) (by omega), e3]
        show rgn m2 4 = 4
        rw [(fb (t := 0) (k := 0) (by decide)).2.2]; exact rg.1
      · have hc : n = 5 ∨ (6 ≤ n ∧ n < 16) ∨ (16 ≤ n ∧ n < 26) := by omega
        rcases hc with e | e | e
        · subst e
          refine FQ.no (fun k => ?_)
          have : rgn (sP m4 4 4 2 (some (6, 16))) 5 = 5 := by
            rw [F25.fR (by omega) (by decide), (fb (t := 0) (k := 0) (by decide)).2.2]; exact rg.2
          rw [this]; rfl
        · exact (fq2 n e.1 e.2).kx F25 (by omega) (by omega)
        · exact (fq4 n e.1 e.2).kx F45 (by omega) (by omega)
      · rw [gP_s, if_neg (by decide), F34.fP (by omega) (by omega), e3, gP_s, if_neg (by decide), (fb (by decide)).2.1]; exact p0
      · rw [gP_s, if_neg (by decide), F34.fP (by omega) (by omega), e3, gP_s, if_pos ⟨rfl, rfl, rfl⟩]
      · rw [gP_s, if_pos ⟨rfl, rfl, rfl⟩]
      · rw [F25.fI (by omega) (by decide), (fb (by decide)).1]; exact it k hk
      · refine ⟨?_, ?_, ?_, ?_, ?_, ?_⟩
        · rw [F25.fI (by omega) (by decide)]; exact i2.1
        · rw [F25.fI (by omega) (by decide)]; exact i2.2.1
        · rw [F25.fI (by omega) (by decide)]; exact i2.2.2.1
        · rw [F25.fI (by omega) (by decide)]; exact i2.2.2.2.1
        · rw [F25.fI (by omega) (by decide)]; exact i2.2.2.2.2.1
        · rw [F25.fI (by omega) (by decide)]; exact i2.2.2.2.2.2
      · refine ⟨?_, ?_, ?_, ?_⟩
        · rw [F25.fP (by omega) (by decide)]; exact p2.1
        · rw [F25.fP (by omega) (by decide)]; exact p2.2.1
        · rw [F25.fP (by omega) (by decide)]; exact p2.2.2.1
        · rw [F25.fP (by omega) (by decide)]; exact p2.2.2.2
      · refine ⟨?_, ?_, ?_, ?_⟩
        · rw [F25.fL (by omega) (by decide)]; exact l2.1
        · rw [F25.fL (by omega) (by decide)]; exact l2.2.1
        · rw [F25.fL (by omega) (by decide)]; exact l2.2.2.1
        · rw [F25.fL (by omega) (by decide)]; exact l2.2.2.2
      · rw [F45.fI (by omega) (by decide)]; exact i4.1
    exact at56 _ rfl
  refine smC_wp [some (vR (some (4, 4)))] cd_60 [44] 60 OK_60 (by decide) rfl rfl (Nat.le_of_ble_eq_true rfl) ?_
  refine And.intro ⟨by decide, rfl⟩ ?_
  refine And.intro (vpd (by decide)) ?_
  refine And.intro (vpd (by decide)) ?_
  refine And.intro (vpd (by decide)) ?_
  refine And.intro (vpd (by decide)) ?_
  refine And.intro (vpd (by decide)) ?_
  refine And.intro (vpd (by decide)) ?_
  refine And.intro (vpd (by decide)) ?_
  refine And.intro trivial ?_
  have c0 : (0 : Int32).toNatClampNeg = 0 := rfl
  have c1 : (1 : Int32).toNatClampNeg = 1 := rfl
  have c2 : (2 : Int32).toNatClampNeg = 2 := rfl
  have c3 : (3 : Int32).toNatClampNeg = 3 := rfl
  have c4 : (4 : Int32).toNatClampNeg = 4 := rfl
  have c5 : (5 : Int32).toNatClampNeg = 5 := rfl
  have c6 : (6 : Int32).toNatClampNeg = 6 := rfl
  rw [c0, c1, c2, c3, c4, c5, c6]
  refine mid _ ?_ ?_ ?_ ⟨?_, ?_⟩ (fun k hk => ?_) ?_
  · simp [nX_sI, nX_sP, nX_al, hX]
  · simp [nS_sI, nS_sP, nS_al]
  · refine (KX.tr (c := 4) ?_ KX.sP (Or.inl rfl))
    rw [hX]
    exact (((((((KX.al.tr KX.sI (Or.inr (by rw [hX]; exact Nat.le_refl _))).tr KX.sI (Or.inr (by rw [hX]; exact Nat.le_refl _))).tr KX.sI (Or.inr (by rw [hX]; exact Nat.le_refl _))).tr KX.sI (Or.inr (by rw [hX]; exact Nat.le_refl _))).tr KX.sI (Or.inr (by rw [hX]; exact Nat.le_refl _))).tr KX.sI (Or.inr (by rw [hX]; exact Nat.le_refl _))).tr KX.sI (Or.inr (by rw [hX]; exact Nat.le_refl _)))
  · simp [rgn_sI, rgn_sP, rgn_al, nX_sI, nX_sP, nX_al, hX, hr]
  · simp [rgn_sI, rgn_sP, rgn_al, nX_sI, nX_sP, nX_al, hX]
  · have hc : k = 0 ∨ k = 1 ∨ k = 2 ∨ k = 3 ∨ k = 4 ∨ k = 5 ∨ k = 6 := by omega
    rcases hc with e | e | e | e | e | e | e <;> subst e <;> simp [gI_s, gI_sPp, gI_al, hX] <;> rfl
  · simp [gP_sI, gP_s, gP_al, nX_sI, nX_sP, nX_al, hX]
end CTOR2
