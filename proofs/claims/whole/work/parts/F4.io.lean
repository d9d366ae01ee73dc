/-! feed and text, over the invariants -/
def fdS (tp : Nat → Int) (td : Nat) (xs : Nat → Int32) : Int × (Nat → Int) × Nat := if td + 20 ≤ 800 then (((td + 20 : Nat) : Int), tpF tp td xs, td + 20) else (-4, tp, td)
def txS (tp : Nat → Int) (td : Nat) (fl : Int × Int) (D : Dt) (N : Int) : Int × Nat × (Int × Int) × Dt := if 0 ≤ N ∧ N ≤ td then (match pAll tp N.toNat with
  | .inl e => (-30 - e.1, 0, (e.1, (e.2 : Int)), D)
  | .inr p => ((p.2.2.2.1 : Int), 0, (0, -1), p.2.2.2)) else (-3, td, fl, D)
section IO
variable {m m' : Mem} {K : Option SV → Mem → Prop} {tp tp' : Nat → Int} {td td' : Nat} {fl fl' : Int × Int} {tm : Nat → Int} {D D' : Dt} {a sa sb j : Nat} {st : Bool}
theorem SRep.fxr {A B : Nat → Nat → Nat → Prop} {sn : Nat} (h : SRep m sn D) (F : FX A B m m') (hD : D.1 ≤ 48) (hn : sn + 100 < nX m) (hA : ∀ t n k, sn ≤ n → n ≤ sn + 100 → t = 8 ∨ t = 9 ∨ t = 10 ∨ t = 12 → ¬ A t n k) : SRep m' sn D := by
  obtain ⟨⟨a1, a2, a3⟩, b, c⟩ := h
  refine ⟨⟨(F.2.1 _ _ _ (by omega) (hA _ _ _ (by omega) (by omega) (by omega))).trans a1, (F.2.1 _ _ _ (by omega) (hA _ _ _ (by omega) (by omega) (by omega))).trans a2, (F.2.1 _ _ _ (by omega) (hA _ _ _ (by omega) (by omega) (by omega))).trans a3⟩, fun i hi => ?_, fun k hk => (F.2.1 _ _ _ (by omega) (hA _ _ _ (by omega) (by omega) (by omega))).trans (c k hk)⟩
  have r8 : ∀ k, gI m' 8 (sn + 1 + 2 + 2 * i) k = gI m 8 (sn + 1 + 2 + 2 * i) k := fun k => F.2.1 _ _ _ (by omega) (hA _ _ _ (by omega) (by omega) (by omega))
  have r9 : ∀ k, gI m' 9 (sn + 1 + 2 + 2 * i + 1) k = gI m 9 (sn + 1 + 2 + 2 * i + 1) k := fun k => F.2.1 _ _ _ (by omega) (hA _ _ _ (by omega) (by omega) (by omega))
  have := b i hi
  unfold NRep at this ⊢
  simp only [r8, r9]
  exact this
theorem CJ.io {A B : Nat → Nat → Nat → Prop} (h : CJ m tp td fl tm D a sa sb j st) (F : FX A B m m') (hx : nX m' = nX m ∧ nS m' = nS m) (hA : ∀ t n k, A t n k → t ≤ 3 ∨ (t = 4 ∧ n = 4 ∧ k = 3) ∨ ((t = 8 ∨ t = 9 ∨ t = 10 ∨ t = 12) ∧ sb ≤ n ∧ n ≤ sb + 100)) (hB : ∀ t n k, B t n k → t ≤ 1) (g2' : gP m' 0 0 2 = some (10, sa)) (g3' : gP m' 0 0 3 = some (10, sb)) (h43 : gI m' 4 4 3 = gI m 4 4 3)
    (ht' : ∀ k, k < 800 → gI m' 2 2 k = iZ (tp' k)) (h1 : gI m' 1 1 1 = iZ td') (f1' : gI m' 0 0 5 = iZ fl'.1) (f2' : gI m' 0 0 6 = iZ fl'.2) : CJ m' tp' td' fl' tm D a sa sb j st := by
  obtain ⟨⟨hs, g2, g3⟩, ⟨x1, x2, x3⟩, ⟨t1, t2⟩, ⟨f1, f2⟩, hP, h16, h3, hc⟩ := h
  obtain ⟨⟨p1, p2⟩, ⟨n1, n2, n3⟩, ht, hR, h0, hG⟩ := hP
  have nA : ∀ {t n k : Nat}, ¬ (t ≤ 3 ∨ (t = 4 ∧ n = 4 ∧ k = 3) ∨ ((t = 8 ∨ t = 9 ∨ t = 10 ∨ t = 12) ∧ sb ≤ n ∧ n ≤ sb + 100)) → ¬ A t n k := fun c z => c (hA _ _ _ z)
  have nB : ∀ {t n k : Nat}, 1 < t → ¬ B t n k := fun c z => by have := hB _ _ _ z; omega
  have hG6 := hG rfl
  refine ⟨⟨hs, g2', g3'⟩, ⟨by omega, by omega, by omega⟩, ⟨ht', h1⟩, ⟨f1', f2'⟩, ⟨⟨p1, p2⟩, ⟨by omega, by omega, by omega⟩, fun k hk => (F.2.1 _ _ _ (by omega) (nA (by omega))).trans (ht k hk), hR.fxr F p2.1 (by omega) (fun t n k c1 c2 c3 => nA (by omega)), (F.2.1 _ _ _ (by omega) (nA (by omega))).trans h0, fun z => (hG z).fx (by omega) F (fun k => nB (by decide))⟩, (F.2.1 _ _ _ (by omega) (nA (by omega))).trans h16, h43.trans h3, fun z => ?_⟩
  exact (hc z).fx hG6 (by omega) F (fun k => nA (by omega)) (fun n k => nA (by omega)) (fun k => ⟨nA (by omega), nA (by omega), nA (by omega), nA (by omega), nA (by omega)⟩) (fun k => nB (by decide))
theorem C_feed {x1 x2 x3 x4 x5' : Int32} (hS : SI tp td tm D) (h : CJ m tp td fl tm D a sa sb j st)
    (hk : ∀ m', CI m' (fdS tp td (x5 x1 x2 x3 x4 x5')).2.1 (fdS tp td (x5 x1 x2 x3 x4 x5')).2.2 fl tm D a → FC m m' → K (some (vI (iZ (fdS tp td (x5 x1 x2 x3 x4 x5')).1))) m') : smC true 89 [vR (some (0, 0)), vI x1, vI x2, vI x3, vI x4, vI x5'] m K := by
  unfold fdS at hk
  refine c_feed h.2.2.1.2 hS.2.1 h.2.2.1.1 (fun c => ?_) (fun m1 c t1 e1 F => ?_)
  · rw [if_neg c] at hk
    exact hk m ⟨sa, sb, j, st, h⟩ (FC.rf _)
  · rw [if_pos c] at hk
    have hx := h.2.1
    have F' : FX (AFd td 20) N3 m m1 := F.fx
    have eX : nX m1 = nX m := by unfold nX; rw [F.1]
    have eS : nS m1 = nS m := by unfold nS; rw [F.1]
    have g : ∀ {t n k : Nat}, t ≠ 1 → t ≠ 2 → gI m1 t n k = gI m t n k := fun u v => F.2 _ _ _ (by unfold AFd; omega)
    exact hk m1 ⟨sa, sb, j, st, h.io F' ⟨eX, eS⟩ (fun t n k z => Or.inl (by unfold AFd at z; omega)) (fun t n k z => absurd z id) ((Fr_gP F _ _ _).trans h.1.2.1) ((Fr_gP F _ _ _).trans h.1.2.2) (g (by decide) (by decide)) t1 e1 ((g (by decide) (by decide)).trans h.2.2.2.1.1) ((g (by decide) (by decide)).trans h.2.2.2.1.2)⟩ (fun t n k u1 u2 u3 => g (by omega) (by omega))
theorem Q_feed {x1 x2 x3 x4 x5' : Int32} (hS : SI tp td tm D) (h : MI m tp td fl tm D)
    (hk : ∀ m', MI m' (fdS tp td (x5 x1 x2 x3 x4 x5')).2.1 (fdS tp td (x5 x1 x2 x3 x4 x5')).2.2 fl tm D → Fr AMa m m' → K (some (vI (iZ (fdS tp td (x5 x1 x2 x3 x4 x5')).1))) m') : smC true 133 [vR (some (23, 231)), vI x1, vI x2, vI x3, vI x4, vI x5'] m K := by
  unfold fdS at hk
  refine M_feed h.2.2.2.1.2 hS.2.1 h.2.2.2.1.1 (fun m1 c e0 F => ?_) (fun m1 c t1 e9 e0 F => ?_)
  · rw [if_neg c] at hk
    have F' : Fr AMq m m1 := F.mono (fun t n k z => Or.inl ⟨z.1, z.2.1, Or.inl z.2.2⟩)
    exact hk m1 (h.fq F') F'.qa
  · rw [if_pos c] at hk
    obtain ⟨⟨⟨b1, b2⟩, hw', hl⟩, ht, ⟨⟨d1, d2, d3⟩, d4, d5⟩, ⟨p1, p2⟩, f1, f2⟩ := h
    have g : ∀ {t n k : Nat}, t ≠ 31 → ¬ (t = 23 ∧ (k = 0 ∨ k = 9)) → gI m1 t n k = gI m t n k := fun u v => F.2 _ _ _ (by unfold AMF; omega)
    refine hk m1 ⟨⟨⟨fun k hk => (g (by omega) (by omega)).trans (b1 k hk), ?_⟩, fun k hk => (g (by omega) (by omega)).trans (hw' k hk), fun k hk => ⟨(g (by omega) (by omega)).trans (hl k hk).1, (g (by omega) (by omega)).trans (hl k hk).2⟩⟩, fun k hk => (g (by omega) (by omega)).trans (ht k hk), ⟨⟨(g (by omega) (by omega)).trans d1, (g (by omega) (by omega)).trans d2, (g (by omega) (by omega)).trans d3⟩, fun i w hi hw => (g (by omega) (by omega)).trans (d4 i w hi hw), fun k hk => (g (by omega) (by omega)).trans (d5 k hk)⟩, ⟨t1, e9⟩, (g (by omega) (by omega)).trans f1, (g (by omega) (by omega)).trans f2⟩ (F.mono (fun t n k z => by unfold AMF at z; unfold AMa; omega))
    obtain ⟨c0, c1, c2, c3, c4, c5, c6⟩ := b2
    exact ⟨(g (by omega) (by omega)).trans c0, (g (by omega) (by omega)).trans c1, (g (by omega) (by omega)).trans c2, (g (by omega) (by omega)).trans c3, (g (by omega) (by omega)).trans c4, (g (by omega) (by omega)).trans c5, (g (by omega) (by omega)).trans c6⟩
theorem fdS_ok {xs : Nat → Int32} (h : SI tp td tm D) : SI (fdS tp td xs).2.1 (fdS tp td xs).2.2 tm D := by
  unfold fdS
  split
  · rename_i c
    exact ⟨tpF_ok h.1, c, h.2.2.1, h.2.2.2⟩
  · exact h
theorem POK.si {N : Nat} {p : PS} (h : SI tp td tm D) (hN : N ≤ 800) (hp : POK tp N p p.1.2.1) : SI tp 0 tm p.2.2.2 := by
  have h1 := hp.1.2.1
  exact ⟨h.1, Nat.zero_le _, h.2.2.1, _, hp.2.2.2.mono (by omega)⟩
theorem C_text {N : Int} {x : Int32} (hx : x = iZ N) (rN : R32 N) (hS : SI tp td tm D) (h : CJ m tp td fl tm D a sa sb j st)
    (hk : ∀ m', CI m' tp (txS tp td fl D N).2.1 (txS tp td fl D N).2.2.1 tm (txS tp td fl D N).2.2.2 a → SI tp (txS tp td fl D N).2.1 tm (txS tp td fl D N).2.2.2 → FC m m' → K (some (vI (iZ (txS tp td fl D N).1))) m') : smC true 90 [vR (some (0, 0)), vI x] m K := by
  unfold txS at hk
  have hxx := h.2.1
  have hss := h.1.1
  have h800 := hS.2.1
  have nAE : ∀ {t n k : Nat}, 4 ≤ t → t ≠ 8 → t ≠ 9 → t ≠ 10 → t ≠ 12 → ¬ (t = 4 ∧ k = 3) → ¬ AE sb t n k := by
    intro t n k c1 c2 c3 c4 c5 c6 z
    unfold AE AD at z
    omega
  refine c_text hx rN hS.1 hS.2.1 h.2.2.1.1 h.2.2.1.2 h.1.2.1 h.1.2.2 ⟨by omega, by omega⟩ (fun c => ?_) (fun m1 e c hp f1 f2 t1 g2 g3 h43 F q => ?_) (fun m1 p c hp hok hR f1 f2 t1 g2 g3 h43 F q => ?_)
  · rw [if_neg c] at hk
    exact hk m ⟨sa, sb, j, st, h⟩ hS (FC.rf _)
  · rw [if_pos c, hp] at hk
    have hC : CJ m1 tp 0 (e.1, (e.2 : Int)) tm D a sa sb j st := h.io F q (fun t n k z => by unfold AE AD at z; omega) (fun t n k z => by unfold BE at z; omega) g2 g3 h43 (fun k hk => (F.2.1 _ _ _ (by omega) (by unfold AE AD; omega)).trans (h.2.2.1.1 k hk)) t1 f1 f2
    exact hk m1 ⟨sa, sb, j, st, hC⟩ ⟨hS.1, Nat.zero_le _, hS.2.2.1, hS.2.2.2⟩ (FC.of F hxx.1 (fun t n k u v => by unfold AE AD; omega))
  · rw [if_pos c, hp] at hk
    have hSI := POK.si hS (N := N.toNat) (by omega) hok
    have hC : CJ m1 tp 0 (0, -1) tm p.2.2.2 a sb sa j true := by
      obtain ⟨⟨hs, _, _⟩, ⟨x1, x2, x3⟩, ⟨u1, u2⟩, ⟨v1, v2⟩, hP, h16, h3, hc⟩ := h
      obtain ⟨⟨p1, p2⟩, ⟨n1, n2, n3⟩, ht, hR0, h0, hG⟩ := hP
      refine ⟨⟨by omega, g2, g3⟩, ⟨by omega, by omega, by omega⟩, ⟨fun k hk => (F.2.1 _ _ _ (by omega) (by unfold AE AD; omega)).trans (u1 k hk), t1⟩, ⟨f1, f2⟩, ⟨⟨p1, hSI.dok⟩, ⟨by omega, by omega, by omega⟩, fun k hk => (F.2.1 _ _ _ (by omega) (nAE (by decide) (by decide) (by decide) (by decide) (by decide) (by omega))).trans (ht k hk), hR, (F.2.1 _ _ _ (by omega) (nAE (by decide) (by decide) (by decide) (by decide) (by decide) (by omega))).trans h0, fun z => (hG z).fx (by omega) F (fun k => by unfold BE; omega)⟩, (F.2.1 _ _ _ (by omega) (nAE (by decide) (by decide) (by decide) (by decide) (by decide) (by omega))).trans h16, h43, fun z => by cases z⟩
    exact hk m1 ⟨sb, sa, j, true, hC⟩ hSI (FC.of F hxx.1 (fun t n k u v => by unfold AE AD; omega))
theorem Q_text {N : Int} {x : Int32} (hx : x = iZ N) (rN : R32 N) (hS : SI tp td tm D) (h : MI m tp td fl tm D)
    (hk : ∀ m', MI m' tp (txS tp td fl D N).2.1 (txS tp td fl D N).2.2.1 tm (txS tp td fl D N).2.2.2 → Fr AMa m m' → K (some (vI (iZ (txS tp td fl D N).1))) m') : smC true 134 [vR (some (23, 231)), vI x] m K := by
  unfold txS at hk
  refine M_text hx rN hS.1 hS.2.1 h.2.2.2.1.1 h.2.2.2.1.2 h.1.1 h.1.2.1 (fun m1 c e0 F => ?_) (fun m1 e c hp he hf e0 e9 e29 F => ?_) (fun m1 p c hp hok hM hOk e0 e9 F => ?_)
  · rw [if_neg c] at hk
    have F' : Fr AMq m m1 := F.mono (fun t n k z => Or.inl ⟨z.1, z.2.1, Or.inl z.2.2⟩)
    exact hk m1 (h.fq F') F'.qa
  all_goals
    rw [if_pos c, hp] at hk
    obtain ⟨⟨⟨b1, b2⟩, hw', hl⟩, ht, ⟨⟨d1, d2, d3⟩, d4, d5⟩, ⟨p1, p2⟩, f1, f2⟩ := h
    have g : ∀ {t n k : Nat}, t ≠ 23 → t ≠ 29 → t ≠ 30 → t ≠ 33 → gI m1 t n k = gI m t n k := fun u1 u2 u3 u4 => F.2 _ _ _ (by unfold AMX; omega)
    have hB : MB m1 ∧ MWd m1 ∧ (∀ k, k < 7 → gI m1 25 233 k = iZ (loT k) ∧ gI m1 26 234 k = iZ (hiT k)) := by
      refine ⟨⟨fun k hk => (g (by omega) (by omega) (by omega) (by omega)).trans (b1 k hk), ?_⟩, fun k hk => (g (by omega) (by omega) (by omega) (by omega)).trans (hw' k hk), fun k hk => ⟨(g (by omega) (by omega) (by omega) (by omega)).trans (hl k hk).1, (g (by omega) (by omega) (by omega) (by omega)).trans (hl k hk).2⟩⟩
      obtain ⟨c0, c1, c2, c3, c4, c5, c6⟩ := b2
      exact ⟨(g (by omega) (by omega) (by omega) (by omega)).trans c0, (g (by omega) (by omega) (by omega) (by omega)).trans c1, (g (by omega) (by omega) (by omega) (by omega)).trans c2, (g (by omega) (by omega) (by omega) (by omega)).trans c3, (g (by omega) (by omega) (by omega) (by omega)).trans c4, (g (by omega) (by omega) (by omega) (by omega)).trans c5, (g (by omega) (by omega) (by omega) (by omega)).trans c6⟩
    have hT : MTm m1 tm := fun k hk => (g (by omega) (by omega) (by omega) (by omega)).trans (ht k hk)
    have hP : ∀ k, k < 800 → gI m1 31 239 k = iZ (sg (tp k)) := fun k hk => (g (by omega) (by omega) (by omega) (by omega)).trans (p1 k hk)
    have FA : Fr AMa m m1 := F.mono (fun t n k z => by unfold AMX at z; unfold AMa; omega)
  · exact hk m1 ⟨hB, hT, ⟨⟨(e29 _).trans d1, (e29 _).trans d2, (e29 _).trans d3⟩, fun i w hi hw => (e29 _).trans (d4 i w hi hw), fun k hk => (e29 _).trans (d5 k hk)⟩, ⟨hP, e9⟩, hf.1, hf.2⟩ FA
  · exact hk m1 ⟨hB, hT, hM, ⟨hP, e9⟩, hOk.1, hOk.2⟩ FA
end IO
