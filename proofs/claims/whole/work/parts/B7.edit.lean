/-! EDITS: fault, terms, body, sign, bare, after -/
def edD (D : Dt) (i : Nat) (f : NF) : Dt := (D.1, upq D.2.1 i f, D.2.2.1, D.2.2.2.1, D.2.2.2.2)
theorem upq_n {α : Type} {g : Nat → α} {k i : Nat} {v : α} (h : i ≠ k) : upq g k v i = g i := by unfold upq; rw [if_neg h]
theorem SI.ed {tp : Nat → Int} {td i : Nat} {tm : Nat → Int} {D : Dt} {f : NF} (h : SI tp td tm D) (hi : i < D.1) (hf : NOK f) (e4 : f 4 = D.2.1 i 4) (e5 : f 5 = D.2.1 i 5) (e6 : f 6 = D.2.1 i 6) (e7 : f 7 = D.2.1 i 7) : SI tp td tm (edD D i f) := by
  obtain ⟨h1, h2, h3, be, s1, s2, ⟨b1, b2, b3, b4⟩, s3⟩ := h
  have g : ∀ k, upq D.2.1 i f k 4 = D.2.1 k 4 ∧ upq D.2.1 i f k 5 = D.2.1 k 5 := by
    intro k
    by_cases e : k = i
    · subst e; rw [upq_s]; exact ⟨e4, e5⟩
    · rw [upq_n e]; exact ⟨rfl, rfl⟩
  refine ⟨h1, h2, h3, be, s1, fun k hk => ?_, ⟨fun z => ?_, fun k hk => ?_, fun k hk => ?_, b4⟩, s3⟩
  · show NOK (upq D.2.1 i f k) ∧ upq D.2.1 i f k 7 ≤ ((800 : Nat) : Int) ∧ upq D.2.1 i f k 6 < (D.2.2.1 : Int)
    by_cases e : k = i
    · subst e; rw [upq_s, e6, e7]; exact ⟨hf, (s2 k hk).2⟩
    · rw [upq_n e]; exact s2 k hk
  · exact (g 0).1.trans (b1 z)
  · show upq D.2.1 i f (k + 1) 4 = upq D.2.1 i f k 4 + upq D.2.1 i f k 5
    rw [(g _).1, (g _).1, (g _).2]; exact b2 k hk
  · show D.2.2.2.2 = upq D.2.1 i f k 4 + upq D.2.1 i f k 5
    rw [(g _).1, (g _).2]; exact b3 k hk
section EDIT
variable {m m' : Mem} {K : Option SV → Mem → Prop} {tp : Nat → Int} {td i : Nat} {fl : Int × Int} {tm : Nat → Int} {D : Dt} {a sa sb j : Nat} {st : Bool} {f : NF}
def AEd (n : Nat) : Nat → Nat → Nat → Prop := fun t n' k => (t = 8 ∧ n' = n ∧ (k = 7 ∨ 9 ≤ k ∧ k ≤ 12)) ∨ (t = 4 ∧ n' = 4 ∧ k = 3)
theorem CJ.ed (hS : SI tp td tm D) (h : CJ m tp td fl tm D a sa sb j st) (hi : i < D.1) (hf : NOK f) (F : Fr (AEd (sa + 1 + 2 + 2 * i)) m m') (hN : NRep m' (sa + 1 + 2 + 2 * i) f) (h43 : gI m' 4 4 3 = 1) : CJ m' tp td fl tm (edD D i f) a sa sb j true := by
  obtain ⟨⟨hs, g2, g3⟩, ⟨x1, x2, x3⟩, ⟨t1, t2⟩, ⟨f1, f2⟩, hP, h16, h3, hc⟩ := h
  obtain ⟨⟨p1, p2⟩, ⟨n1, n2, n3⟩, ht, ⟨⟨q1, q2, q3⟩, qn, qb⟩, h0, hG⟩ := hP
  have eX : nX m' = nX m := by unfold nX; rw [F.1]
  have eS : nS m' = nS m := by unfold nS; rw [F.1]
  have g : ∀ {t n k : Nat}, t ≠ 8 → ¬ (t = 4 ∧ k = 3) → gI m' t n k = gI m t n k := fun u v => F.2 _ _ _ (by unfold AEd; omega)
  refine ⟨⟨hs, (Fr_gP F _ _ _).trans g2, (Fr_gP F _ _ _).trans g3⟩, ⟨by omega, by omega, by omega⟩, ⟨fun k hk => (g (by omega) (by omega)).trans (t1 k hk), (g (by omega) (by omega)).trans t2⟩, ⟨(g (by omega) (by omega)).trans f1, (g (by omega) (by omega)).trans f2⟩, ⟨⟨p1, ⟨p2.1, fun k hk => ?_, p2.2.2⟩⟩, ⟨by omega, by omega, by omega⟩, fun k hk => (g (by omega) (by omega)).trans (ht k hk), ⟨⟨(g (by omega) (by omega)).trans q1, (g (by omega) (by omega)).trans q2, (g (by omega) (by omega)).trans q3⟩, fun k hk => ?_, fun k hk => (g (by omega) (by omega)).trans (qb k hk)⟩, (g (by omega) (by omega)).trans h0, fun z => (hG z).kept F.1⟩, (g (by omega) (by omega)).trans h16, h43, fun z => by cases z⟩
  · show NOK (upq D.2.1 i f k)
    by_cases e : k = i
    · subst e; rw [upq_s]; exact hf
    · rw [upq_n e]; exact p2.2.1 k hk
  · show NRep m' (sa + 1 + 2 + 2 * k) (upq D.2.1 i f k)
    by_cases e : k = i
    · subst e; rw [upq_s]; exact hN
    · rw [upq_n e]
      have r8 : ∀ w, gI m' 8 (sa + 1 + 2 + 2 * k) w = gI m 8 (sa + 1 + 2 + 2 * k) w := fun w => F.2 _ _ _ (by unfold AEd; omega)
      have r9 : ∀ w, gI m' 9 (sa + 1 + 2 + 2 * k + 1) w = gI m 9 (sa + 1 + 2 + 2 * k + 1) w := fun w => g (by omega) (by omega)
      have := qn k hk
      unfold NRep at this ⊢
      simp only [r8, r9]
      exact this
def AMe (i : Nat) : Nat → Nat → Nat → Prop := fun t n k => (t = 23 ∧ n = 231 ∧ k = 0) ∨ (t = 29 ∧ n = 237 ∧ 4 + 30 * i ≤ k ∧ k < 34 + 30 * i)
theorem AMe_a {t n k : Nat} (h : AMe i t n k) : AMa t n k := by unfold AMe at h; unfold AMa; omega
theorem MI.ed (h : MI m tp td fl tm D) (hD : DOK D) (hi : i < D.1) (F : Fr (AMe i) m m') (hN : ∀ w, w < 30 → gI m' 29 237 (4 + 30 * i + w) = iZ (mw w (f w))) : MI m' tp td fl tm (edD D i f) := by
  obtain ⟨⟨⟨b1, b2⟩, hw, hl⟩, ht, ⟨⟨d1, d2, d3⟩, d4, d5⟩, ⟨p1, p2⟩, f1, f2⟩ := h
  have h48 := hD.1
  have g : ∀ {t n k : Nat}, t ≠ 29 → ¬ (t = 23 ∧ k = 0) → gI m' t n k = gI m t n k := fun h1 h2 => F.2 _ _ _ (by unfold AMe; omega)
  refine ⟨⟨⟨fun k hk => (g (by omega) (by omega)).trans (b1 k hk), ?_⟩, fun k hk => (g (by omega) (by omega)).trans (hw k hk), fun k hk => ⟨(g (by omega) (by omega)).trans (hl k hk).1, (g (by omega) (by omega)).trans (hl k hk).2⟩⟩, fun k hk => (g (by omega) (by omega)).trans (ht k hk), ⟨⟨(F.2 _ _ _ (by unfold AMe; omega)).trans d1, (F.2 _ _ _ (by unfold AMe; omega)).trans d2, (F.2 _ _ _ (by unfold AMe; omega)).trans d3⟩, fun k w hk hw => ?_, fun k hk => (F.2 _ _ _ (by unfold AMe; omega)).trans (d5 k hk)⟩, ⟨fun k hk => (g (by omega) (by omega)).trans (p1 k hk), (g (by omega) (by omega)).trans p2⟩, (g (by omega) (by omega)).trans f1, (g (by omega) (by omega)).trans f2⟩
  · obtain ⟨c0, c1, c2, c3, c4, c5, c6⟩ := b2
    exact ⟨(g (by omega) (by omega)).trans c0, (g (by omega) (by omega)).trans c1, (g (by omega) (by omega)).trans c2, (g (by omega) (by omega)).trans c3, (g (by omega) (by omega)).trans c4, (g (by omega) (by omega)).trans c5, (g (by omega) (by omega)).trans c6⟩
  · show gI m' 29 237 (4 + 30 * k + w) = iZ (mw w (upq D.2.1 i f k w))
    by_cases e : k = i
    · subst e; rw [upq_s]; exact hN w hw
    · rw [upq_n e, F.2 _ _ _ (by unfold AMe; omega)]; exact d4 k w hk hw
/-- op 2 -/
def qFlt (fl : Int × Int) (w : Int) : Int := if w = 0 then fl.1 else if w = 1 then fl.2 else -1
theorem c_fault {w : Int} {x : Int32} (hx : x = iZ w) (rw' : R32 w) (h : CJ m tp td fl tm D a sa sb j st) (hk : K (some (vI (iZ (qFlt fl w)))) m) : smC true 98 [vR (some (0, 0)), vI x] m K := by
  subst hx
  unfold qFlt at hk
  have f1 := h.2.2.2.1.1
  have f2 := h.2.2.2.1.2
  refine smC_wp [some (vR (some (0, 0))), some (vI (iZ w))] cd_98 [] 30 OK_98 (by decide) rfl rfl (Nat.le_of_ble_eq_true rfl) ?_
  refine And.intro (fun z => ?_) (fun z => ?_)
  rotate_left
  · rw [L0, iZ_eq rw' (by decide)] at z
    rw [if_pos z] at hk
    refine And.intro trivial ?_
    rw [f1]; exact hk
  rw [L0, iZ_eq rw' (by decide)] at z
  rw [if_neg z] at hk
  refine And.intro (fun y => ?_) (fun y => ?_)
  · rw [L1, iZ_eq rw' (by decide)] at y
    rw [if_neg y] at hk
    exact And.intro trivial hk
  · rw [L1, iZ_eq rw' (by decide)] at y
    rw [if_pos y] at hk
    refine And.intro trivial ?_
    rw [f2]; exact hk
theorem M_fault {w : Int} {x : Int32} (hx : x = iZ w) (rw' : R32 w) (h : MI m tp td fl tm D) (hk : ∀ m', MI m' tp td fl tm D → Fr AMa m m' → K (some (vI (iZ (qFlt fl w)))) m') : smC true 163 [vR (some (23, 231)), vI x] m K := by
  subst hx
  refine smC_wp [some (vR (some (23, 231))), some (vI (iZ w))] cd_163 [5] 30 OK_163 (by decide) rfl rfl (Nat.le_of_ble_eq_true rfl) ?_
  refine And.intro trivial ?_
  have F0 : Fr AMq m (sI m 23 231 0 0) := Fr.st (Or.inl ⟨rfl, rfl, Or.inl rfl⟩)
  have h0 := h.fq F0
  have hk := hk _ h0 (F0.mono (fun t n k z => AMq_a z))
  generalize sI m 23 231 0 0 = m0 at *
  unfold qFlt at hk
  have f1 := h0.2.2.2.2.1
  have f2 := h0.2.2.2.2.2
  refine wp1_ok (by decide) OK_163 (cc := cd_163) rfl (stops := []) (f := 30) ?_
  refine And.intro (fun z => ?_) (fun z => ?_)
  rotate_left
  · rw [L0, iZ_eq rw' (by decide)] at z
    rw [if_pos z] at hk
    refine And.intro trivial ?_
    rw [f1]; exact hk
  rw [L0, iZ_eq rw' (by decide)] at z
  rw [if_neg z] at hk
  refine And.intro (fun y => ?_) (fun y => ?_)
  · rw [L1, iZ_eq rw' (by decide)] at y
    rw [if_neg y] at hk
    exact And.intro trivial hk
  · rw [L1, iZ_eq rw' (by decide)] at y
    rw [if_pos y] at hk
    refine And.intro trivial ?_
    rw [f2]; exact hk
end EDIT
