/-! terms, body, sign, bare, after: the class -/
def CI (m : Mem) (tp : Nat → Int) (td : Nat) (fl : Int × Int) (tm : Nat → Int) (D : Dt) (a : Nat) : Prop := ∃ sa sb j st, CJ m tp td fl tm D a sa sb j st
theorem st9 : ∀ k : Nat, k < 7 → stT 60 9 k = iZ (loT k) := by decide +kernel
theorem st10 : ∀ k : Nat, k < 7 → stT 60 10 k = iZ (hiT k) := by decide +kernel
theorem lh_rng : ∀ k : Nat, k < 7 → 0 ≤ loT k ∧ loT k ≤ 25 ∧ 1 ≤ hiT k ∧ hiT k ≤ 400 := by decide
abbrev okTV (w v : Int) : Prop := loT w.toNat ≤ v ∧ v ≤ hiT w.toNat ∧ (w = 1 → pw2 v = true)
def tmS (tm : Nat → Int) (w v : Int) : Int × (Nat → Int) := if 0 ≤ w ∧ w ≤ 6 then (if okTV w v then (tm w.toNat, upq tm w.toNat v) else (-3, tm)) else (-2, tm)
theorem pw2_64 : ∀ v : Nat, v ≤ 64 → 8 ≤ v → pw2 v = true → v = 8 ∨ v = 16 ∨ v = 32 ∨ v = 64 := by decide +kernel
theorem tmOK_up {tm : Nat → Int} {w v : Int} (h : tmOK tm) (hw : 0 ≤ w ∧ w ≤ 6) (hv : okTV w v) : tmOK (upq tm w.toNat v) := by
  obtain ⟨h0, h1, h2, h3, h4, h5, h6⟩ := h
  obtain ⟨v1, v2, v3⟩ := hv
  have hc : w = 0 ∨ w = 1 ∨ w = 2 ∨ w = 3 ∨ w = 4 ∨ w = 5 ∨ w = 6 := by omega
  rcases hc with rfl | rfl | rfl | rfl | rfl | rfl | rfl
  · exact ⟨⟨v1, v2⟩, h1, h2, h3, h4, h5, h6⟩
  · refine ⟨h0, ?_, h2, h3, h4, h5, h6⟩
    have v1 : (8 : Int) ≤ v := v1
    have v2 : v ≤ (64 : Int) := v2
    have := pw2_64 v.toNat (by omega) (by omega) (by rw [Int.toNat_of_nonneg (by omega)]; exact v3 rfl)
    show v = 8 ∨ v = 16 ∨ v = 32 ∨ v = 64
    omega
  · exact ⟨h0, h1, ⟨v1, v2⟩, h3, h4, h5, h6⟩
  · exact ⟨h0, h1, h2, ⟨v1, v2⟩, h4, h5, h6⟩
  · exact ⟨h0, h1, h2, h3, ⟨v1, v2⟩, h5, h6⟩
  · exact ⟨h0, h1, h2, h3, h4, ⟨v1, v2⟩, h6⟩
  · exact ⟨h0, h1, h2, h3, h4, h5, ⟨v1, v2⟩⟩
theorem tmS_ok {tp : Nat → Int} {td : Nat} {tm : Nat → Int} {D : Dt} {w v : Int} (h : SI tp td tm D) : SI tp td (tmS tm w v).2 D := by
  unfold tmS
  split
  · rename_i hw
    split
    · rename_i hv
      exact ⟨h.1, h.2.1, tmOK_up h.2.2.1 hw hv, h.2.2.2⟩
    · exact h
  · exact h
/-- a note of the song -/
abbrev isN (D : Dt) (i : Int) : Prop := 0 ≤ i ∧ i < D.1 ∧ D.2.1 i.toNat 0 = 1
def bdF (f : NF) (kd : Int) : NF := fun w => if w = 10 then kd else if w = 13 ∨ w = 14 then 2 else if w = 12 then (if f 12 = 1 ∧ ¬ (kd = 1 ∨ kd = 8) then 0 else f 12) else f w
section OPS1
variable {m m' : Mem} {K : Option SV → Mem → Prop} {tp : Nat → Int} {td i : Nat} {fl : Int × Int} {tm : Nat → Int} {D : Dt} {a sa sb j : Nat} {st : Bool} {f f' : NF}
theorem C_terms {w v : Int} {x y : Int32} (hx : x = iZ w) (hy : y = iZ v) (rw' : R32 w) (rv : R32 v) (hS : SI tp td tm D) (h : CJ m tp td fl tm D a sa sb j st)
    (hk : ∀ m', CI m' tp td fl (tmS tm w v).2 D a → FC m m' → K (some (vI (iZ (tmS tm w v).1))) m') : smC true 99 [vR (some (0, 0)), vI x, vI y] m K := by
  subst hx; subst hy
  unfold tmS at hk
  refine smC_wp [some (vR (some (0, 0))), some (vI (iZ w)), some (vI (iZ v)), none] cd_99 [16, 49, 52] 60 OK_99 (by decide) rfl rfl (Nat.le_of_ble_eq_true rfl) ?_
  have bad : ¬ (0 ≤ w ∧ w ≤ 6) → smE true 99 16 [some (vR (some (0, 0))), some (vI (iZ w)), some (vI (iZ v)), none] [] m K := by
    intro z
    rw [if_neg z] at hk
    refine wp_ok (by decide) OK_99 (cc := cd_99) rfl (stops := []) 20 _ _ _ _ ?_
    exact And.intro trivial (hk m ⟨sa, sb, j, st, h⟩ (FC.rf _))
  refine And.intro (fun z => ?_) (fun z => ?_)
  · rw [L0, iZ_lt rw' (by decide)] at z
    exact And.intro trivial (bad (by omega))
  rw [L0, iZ_lt rw' (by decide)] at z
  refine And.intro (fun y => ?_) (fun y => ?_)
  rotate_left
  · have y : ¬ iZ w < nI 7 := y
    rw [iZ_nI, iZ_lt rw' (by decide)] at y
    exact And.intro trivial (bad (by omega))
  have y : iZ w < nI 7 := y
  rw [iZ_nI, iZ_lt rw' (by decide)] at y
  have hw : 0 ≤ w ∧ w ≤ 6 := by omega
  rw [if_pos hw] at hk
  have hw7 : w.toNat < 7 := by omega
  have ec : (iZ w).toNatClampNeg = w.toNat := iZ_clamp rw'
  have hin : vp_in (iZ w) 7 := (iZ_in rw').mpr (by omega)
  have lr := lh_rng w.toNat hw7
  have cant : ¬ okTV w v → smE true 99 49 [some (vR (some (0, 0))), some (vI (iZ w)), some (vI (iZ v)), none] [] m K := by
    intro z
    rw [if_neg z] at hk
    refine wp_ok (by decide) OK_99 (cc := cd_99) rfl (stops := []) 20 _ _ _ _ ?_
    exact And.intro trivial (hk m ⟨sa, sb, j, st, h⟩ (FC.rf _))
  have good : okTV w v → smE true 99 52 [some (vR (some (0, 0))), some (vI (iZ w)), some (vI (iZ v)), none] [] m K := by
    intro z
    rw [if_pos z] at hk
    refine wp_ok (by decide) OK_99 (cc := cd_99) rfl (stops := []) 40 _ _ _ _ ?_
    refine And.intro hin ?_
    refine And.intro hin ?_
    refine And.intro (Or.inr rfl) ?_
    refine And.intro trivial ?_
    obtain ⟨⟨hs, g2, g3⟩, ⟨x1, x2, x3⟩, ⟨t1, t2⟩, ⟨f1, f2⟩, hP, h16, h3, hc⟩ := h
    obtain ⟨⟨p1, p2⟩, ⟨n1, n2, n3⟩, ht, hR, h0, hG⟩ := hP
    rw [ec, ht _ hw7]
    have F : Fr (fun t n k => (t = 5 ∧ n = 5 ∧ k = w.toNat) ∨ (t = 4 ∧ n = 4 ∧ k = 3)) m (sI (sI m 5 5 w.toNat (iZ v)) 4 4 3 1) := (Fr.st (Or.inl ⟨rfl, rfl, rfl⟩)).tr (Fr.st (Or.inr ⟨rfl, rfl, rfl⟩))
    have e5 : ∀ k, k < 7 → gI (sI (sI m 5 5 w.toNat (iZ v)) 4 4 3 1) 5 5 k = iZ (upq tm w.toNat v k) := by
      intro k hk
      rw [gI_s, if_neg (by omega), gI_s]
      by_cases e : k = w.toNat
      · rw [if_pos ⟨e, rfl, rfl⟩, e, upq_s]
      · rw [if_neg (by omega), upq_n e]; exact ht k hk
    have e3 : gI (sI (sI m 5 5 w.toNat (iZ v)) 4 4 3 1) 4 4 3 = 1 := by rw [gI_s, if_pos ⟨rfl, rfl, rfl⟩]
    have e2 : (sI (sI m 5 5 w.toNat (iZ v)) 4 4 3 1).2 = m.2 := rfl
    generalize sI (sI m 5 5 w.toNat (iZ v)) 4 4 3 1 = m1 at *
    have g : ∀ {t n k : Nat}, t ≠ 5 → ¬ (t = 4 ∧ k = 3) → gI m1 t n k = gI m t n k := fun u v => F.2 _ _ _ (by omega)
    have eX : nX m1 = nX m := by unfold nX; rw [e2]
    have eS : nS m1 = nS m := by unfold nS; rw [e2]
    refine hk m1 ⟨sa, sb, j, true, ⟨hs, (Fr_gP F _ _ _).trans g2, (Fr_gP F _ _ _).trans g3⟩, ⟨by omega, by omega, by omega⟩, ⟨fun k hk => (g (by omega) (by omega)).trans (t1 k hk), (g (by omega) (by omega)).trans t2⟩, ⟨(g (by omega) (by omega)).trans f1, (g (by omega) (by omega)).trans f2⟩, ⟨⟨tmOK_up p1 hw z, p2⟩, ⟨by omega, by omega, by omega⟩, e5, hR.frd F (fun k => by omega) (fun k => by omega) (fun i k _ => by omega) (fun i k _ => by omega), (g (by omega) (by omega)).trans h0, fun z => (hG z).kept e2⟩, (g (by omega) (by omega)).trans h16, e3, fun z => by cases z⟩ (fun t n k u1 u2 u3 => g (by omega) (by omega))
  refine And.intro hin ?_
  rw [ec, st9 _ hw7]
  refine And.intro (fun u => ?_) (fun u => ?_)
  · rw [iZ_lt rv (by constructor <;> omega)] at u
    exact And.intro trivial (cant (fun q => by have := q.1; omega))
  rw [iZ_lt rv (by constructor <;> omega)] at u
  refine And.intro hin ?_
  rw [ec, st10 _ hw7]
  refine And.intro (fun q => ?_) (fun q => ?_)
  · rw [iZ_lt (by constructor <;> omega) rv] at q
    exact And.intro trivial (cant (fun s => by have := s.2.1; omega))
  rw [iZ_lt (by constructor <;> omega) rv] at q
  refine And.intro (fun s => ?_) (fun s => ?_)
  · rw [L1, iZ_eq rw' (by decide)] at s
    exact And.intro trivial (good ⟨by omega, by omega, fun e => absurd e s⟩)
  rw [L1, iZ_eq rw' (by decide)] at s
  refine And.intro trivial (c_isPow rfl rv (fun e => ?_) (fun e => ?_))
  · refine And.intro (fun _ => ?_) (fun e => absurd e (by decide))
    exact And.intro trivial (good ⟨by omega, by omega, fun _ => e⟩)
  · refine And.intro (fun e => absurd rfl e) (fun _ => ?_)
    exact And.intro trivial (cant (fun q => e (q.2.2 s)))
theorem NRep.ed {n : Nat} (hN : NRep m n f) (h1 : f 0 = 1) (F : Fr (AEd n) m m') (hs : ∀ w, w ≠ 10 → w ≠ 11 → w ≠ 12 → w ≠ 13 → w ≠ 14 → f' w = f w) (e7 : gI m' 8 n 7 = iZ (f' 11)) (e9 : gI m' 8 n 9 = iZ (f' 10)) (e10 : gI m' 8 n 10 = iZ (f' 13)) (e11 : gI m' 8 n 11 = iZ (f' 14)) (e12 : gI m' 8 n 12 = iZ (f' 12)) (hg : ngr f' ≤ ngr f) : NRep m' n f' := by
  obtain ⟨⟨a0, a1, a2, a3, a4, a5, a6, a7, a9, a12⟩, b⟩ := hN
  obtain ⟨⟨b10, b11, b13, b14, b15⟩, bg⟩ := b h1
  have s : ∀ w, w < 10 ∨ 14 < w → f' w = f w := fun w hw => hs w (by omega) (by omega) (by omega) (by omega) (by omega)
  have g : ∀ {k : Nat}, ¬ (k = 7 ∨ 9 ≤ k ∧ k ≤ 12) → gI m' 8 n k = gI m 8 n k := fun u => F.2 _ _ _ (by unfold AEd; omega)
  have ep : nPit f' = nPit f := by unfold nPit nStep; rw [s 0 (by omega), s 1 (by omega), s 2 (by omega), s 3 (by omega)]
  refine ⟨⟨by rw [ep, g (by omega)]; exact a0, by rw [s 4 (by omega), g (by omega)]; exact a1, by rw [s 5 (by omega), g (by omega)]; exact a2, by rw [s 6 (by omega), g (by omega)]; exact a3, by rw [s 8 (by omega), g (by omega)]; exact a4, by rw [s 9 (by omega), g (by omega)]; exact a5, by rw [s 7 (by omega), g (by omega)]; exact a6, e7, e9, e12⟩, fun _ => ⟨⟨e10, e11, by rw [s 15 (by omega), g (by omega)]; exact b13, by rw [s 16 (by omega), g (by omega)]; exact b14, by rw [s 17 (by omega), g (by omega)]; exact b15⟩, fun k hk => ?_⟩⟩
  rw [F.2 9 _ _ (by unfold AEd; omega), bg k (by omega)]
  unfold nGr
  rw [s (26 + k) (by omega), s (22 + k) (by omega), s (18 + k) (by omega)]
theorem NOK.ed (h : NOK f) (h1 : f 0 = 1) (hs : ∀ w, w ≠ 10 → w ≠ 11 → w ≠ 12 → w ≠ 13 → w ≠ 14 → f' w = f w) (r10 : 0 ≤ f' 10 ∧ f' 10 ≤ 8) (r11 : 0 ≤ f' 11 ∧ f' 11 ≤ 6) (r12 : 0 ≤ f' 12 ∧ f' 12 ≤ 2) (r13 : sgOK (f' 13)) (r14 : sgOK (f' 14)) (hg : ngr f' ≤ ngr f) : NOK f' := by
  obtain ⟨a0, a4, a5, a6, a7, a8, a9, a10, a11, a12, _, b⟩ := h
  obtain ⟨b1, ⟨b13, b14, b15, b16, b17⟩, bg⟩ := b h1
  have s : ∀ w, w < 10 ∨ 14 < w → f' w = f w := fun w hw => hs w (by omega) (by omega) (by omega) (by omega) (by omega)
  have e0 := s 0 (by omega)
  refine ⟨by rw [e0]; exact a0, by rw [s 4 (by omega)]; exact a4, by rw [s 5 (by omega)]; exact a5, by rw [s 6 (by omega)]; exact a6, by rw [s 7 (by omega)]; exact a7, by rw [s 8 (by omega)]; exact a8, by rw [s 9 (by omega)]; exact a9, r10, r11, r12, fun z => absurd (e0.symm.trans z) (by omega), fun _ => ⟨by rw [s 1 (by omega), s 2 (by omega), s 3 (by omega)]; exact b1, ⟨r13, r14, by rw [s 15 (by omega)]; exact b15, by rw [s 16 (by omega)]; exact b16, by rw [s 17 (by omega)]; exact b17⟩, fun k hk => ?_⟩⟩
  rw [s (18 + k) (by omega), s (22 + k) (by omega), s (26 + k) (by omega)]
  exact bg k (by omega)
end OPS1
