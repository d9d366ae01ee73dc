/-! instead, richest: both -/
theorem preS_ge {i : Nat} {P : Int → Int × Int} {g : Nat → Int × Int} {T L ah pf : Int} {qa : Bool} {s : WS} : s.1.length ≤ (preS i P g T L ah qa pf s).2.1.1.length := by
  unfold preS
  split
  · exact Nat.le_refl _
  split
  · split
    · exact Nat.le_refl _
    · show s.1.length ≤ (apN i _ s).1.length
      rw [apN_len]; omega
  split
  · split
    · exact Nat.le_refl _
    · split
      · show s.1.length ≤ (apN i _ s).1.length
        rw [apN_len]; omega
      · show s.1.length ≤ (apN i _ s).1.length
        rw [apN_len]; omega
  split
  · show s.1.length ≤ (apN i _ (shN _ s)).1.length
    rw [apN_len, shN_len]; omega
  · show s.1.length ≤ (apN i _ s).1.length
    rw [apN_len]; omega
theorem behS_ge {i : Nat} {T bh : Int} {nx : NX} {ab : Bool} {s : WS} : s.1.length ≤ (behS i T bh nx ab s).2.1.length := by
  unfold behS
  split
  · exact Nat.le_refl _
  split
  · split
    · exact Nat.le_refl _
    · split
      · exact Nat.le_refl _
      · simp [plN, shN_len]
  · exact Nat.le_refl _
theorem wC_ge {i : Nat} {p : Int × Int} {lf : Int} {b : Int × List Pl × Bool} {s : WS} : s.1.length ≤ (wC i p lf b s).1.length := by
  have h : s.1.length ≤ (apN i b.2.1 s).1.length := by rw [apN_len]; omega
  unfold wC
  split
  · show s.1.length ≤ ((apN i b.2.1 s).1.length + 1); omega
  · exact h
theorem wN_ge {tm : Nat → Int} {pc : Int} {f : NF} {nx : NX} {i : Nat} {s : WS} : s.1.length ≤ (wN tm pc f nx i s).1.1.length := by
  unfold wN
  split
  · exact Nat.le_trans (Nat.le_trans preS_ge wC_ge) behS_ge
  · exact Nat.le_refl _
def tryD (D : Dt) (n : Nat) (kd : Int) : Dt := edD D n (bdF (D.2.1 n) kd)
def cR (tm : Nat → Int) (D : Dt) (n : Nat) (kd : Int) : Int := ((wr tm (tm 5) (tryD D n kd) (n + 1)).1.length : Int) - (wr tm (tm 5) (tryD D n kd) n).1.length
/-- the best of the first kinds, and how many tones it has -/
def rcN (c : Int → Int) : Nat → Int × Int
  | 0 => (0, 0)
  | n + 1 => if (rcN c n).2 < c n then ((n : Int), c n) else rcN c n
def qIn (tm : Nat → Int) (D : Dt) (i kd : Int) : Int := if isN D i then (if 0 ≤ kd ∧ kd ≤ 8 then ((wr tm (tm 5) (tryD D i.toNat kd) D.1).1.length : Int) else -3) else -2
def qRi (tm : Nat → Int) (D : Dt) (i : Int) : Int := if isN D i then (rcN (cR tm D i.toNat) 9).1 else -2
theorem edD_back {D : Dt} {n : Nat} {f : NF} : edD (edD D n f) n (D.2.1 n) = D := by
  unfold edD
  have : upq (upq D.2.1 n f) n (D.2.1 n) = D.2.1 := by
    funext k
    by_cases e : k = n
    · subst e; rw [upq_s]
    · rw [upq_n e, upq_n e]
  show (D.1, upq (upq D.2.1 n f) n (D.2.1 n), D.2.2.1, D.2.2.2.1, D.2.2.2.2) = D
  rw [this]
theorem SI.try {tp : Nat → Int} {td : Nat} {tm : Nat → Int} {D : Dt} {n : Nat} {kd : Int} (hS : SI tp td tm D) (hn : n < D.1) (h1 : D.2.1 n 0 = 1) (hk : 0 ≤ kd ∧ kd ≤ 8) : SI tp td tm (tryD D n kd) := hS.ed hn (bdF_ok (hS.dok.2.1 n hn) h1 hk) rfl rfl rfl rfl
theorem cR_rng {tp : Nat → Int} {td : Nat} {tm : Nat → Int} {D : Dt} {n : Nat} {kd : Int} (hS : SI tp td tm D) (hn : n < D.1) (h1 : D.2.1 n 0 = 1) (hk : 0 ≤ kd ∧ kd ≤ 8) : 0 ≤ cR tm D n kd ∧ cR tm D n kd ≤ 73 := by
  have hT := hS.try hn h1 hk
  have hf := hT.dok.2.1 n hn
  have g1 : (wr tm (tm 5) (tryD D n kd) n).1.length ≤ (wr tm (tm 5) (tryD D n kd) (n + 1)).1.length := wN_ge
  have g2 : (wr tm (tm 5) (tryD D n kd) (n + 1)).1.length ≤ (wr tm (tm 5) (tryD D n kd) n).1.length + 73 := wN_len hf (wT_rng hS.2.2.1 hf hS.t5)
  unfold cR
  omega
theorem rcN_rng {c : Int → Int} (hc : ∀ k : Nat, k < 9 → 0 ≤ c k ∧ c k ≤ 73) : ∀ n, n ≤ 9 → (0 ≤ (rcN c n).1 ∧ (rcN c n).1 ≤ 8) ∧ 0 ≤ (rcN c n).2 ∧ (rcN c n).2 ≤ 73
  | 0, _ => by show ((0 : Int) ≤ 0 ∧ (0 : Int) ≤ 8) ∧ (0 : Int) ≤ 0 ∧ (0 : Int) ≤ 73; decide
  | n + 1, h => by
    have ih := rcN_rng hc n (by omega)
    have := hc n (by omega)
    unfold rcN
    split
    · exact ⟨⟨by show (0 : Int) ≤ (n : Int); omega, by show (n : Int) ≤ 8; omega⟩, this⟩
    · exact ih
section OPSB
variable {m m' m2 m3 m4 : Mem} {K : Option SV → Mem → Prop} {tp : Nat → Int} {td : Nat} {fl : Int × Int} {tm : Nat → Int} {D D' : Dt} {a sa sb j : Nat} {st : Bool} {f f' : NF} {i : Int}
/-- a body's fields -/
def AB (nn : Nat) : Nat → Nat → Nat → Prop := fun t n k => t = 8 ∧ n = nn ∧ (k = 9 ∨ k = 10 ∨ k = 11 ∨ k = 12)
theorem c_takeBodyOf {n1 n2 : Nat} (hne : n1 ≠ n2) (h : ∀ m', gI m' 8 n1 9 = gI m 8 n2 9 → gI m' 8 n1 10 = gI m 8 n2 10 → gI m' 8 n1 11 = gI m 8 n2 11 → gI m' 8 n1 12 = gI m 8 n2 12 → Fr (AB n1) m m' → K none m') : smC true 7 [vR (some (8, n1)), vR (some (8, n2))] m K := by
  have hne' : ¬ n2 = n1 := fun e => hne e.symm
  refine smC_wp [some (vR (some (8, n1))), some (vR (some (8, n2)))] cd_7 [] 40 OK_7 (by decide) rfl rfl (Nat.le_of_ble_eq_true rfl) ?_
  refine And.intro trivial (h _ ?_ ?_ ?_ ?_ ?_)
  · simp only [gI_s]; simp [hne']
  · simp only [gI_s]; simp [hne']
  · simp only [gI_s]; simp [hne']
  · simp only [gI_s]; simp [hne']
  · exact (((Fr.st ⟨rfl, rfl, by omega⟩).tr (Fr.st ⟨rfl, rfl, by omega⟩)).tr (Fr.st ⟨rfl, rfl, by omega⟩)).tr (Fr.st ⟨rfl, rfl, by omega⟩)
theorem AV16_a {t n k : Nat} (z : AV 16 false t n k) : aOK t n k := by
  unfold aOK
  rcases z with z | z
  · rcases z with z | z | z | z | z | z | z | z | z
    · exact Or.inr (Or.inl ⟨z.1, z.2.1⟩)
    · exact Or.inr (Or.inr (Or.inl z.1))
    · exact Or.inr (Or.inr (Or.inr (Or.inl ⟨z.1, z.2.1, by omega⟩)))
    · exact absurd z.2 (by decide)
    · omega
    · omega
    · omega
    · omega
    · omega
  · exact Or.inr (Or.inl ⟨z.1, z.2.1⟩)
theorem BV16_b {t n k : Nat} (z : BV 16 t n k) : bOKf t n k := by
  unfold bOKf
  rcases z with z | z
  · rcases z with z | z
    · exact Or.inl ⟨z.1, z.2.1⟩
    · unfold BO at z; omega
  · exact Or.inl ⟨z.1, z.2.1⟩
theorem CJ.aside (hS : SI tp td tm D) (h : CJ m tp td fl tm D a sa sb j st) (F : Fr (AB 229) m m') : CJ m' tp td fl tm D a sa sb j st ∧ FC m m' := by
  obtain ⟨⟨hs, g2, g3⟩, ⟨x1, x2, x3⟩, ⟨t1, t2⟩, ⟨f1, f2⟩, hP, h16, h3, hc⟩ := h
  obtain ⟨⟨p1, p2⟩, ⟨n1, n2, n3⟩, ht, hR, h0, hG⟩ := hP
  have h48 := p2.1
  have eX : nX m' = nX m := by unfold nX; rw [F.1]
  have eS : nS m' = nS m := by unfold nS; rw [F.1]
  have g : ∀ {t n k : Nat}, t ≠ 8 → gI m' t n k = gI m t n k := fun u => F.2 _ _ _ (by unfold AB; omega)
  refine ⟨⟨⟨hs, (Fr_gP F _ _ _).trans g2, (Fr_gP F _ _ _).trans g3⟩, ⟨by omega, by omega, by omega⟩, ⟨fun k hk => (g (by omega)).trans (t1 k hk), (g (by omega)).trans t2⟩, ⟨(g (by omega)).trans f1, (g (by omega)).trans f2⟩, ⟨⟨p1, p2⟩, ⟨by omega, by omega, by omega⟩, fun k hk => (g (by omega)).trans (ht k hk), hR.frd F (fun k => by unfold AB; omega) (fun k => by unfold AB; omega) (fun i k hi => by unfold AB; omega) (fun i k hi => by unfold AB; omega), (g (by omega)).trans h0, fun z => (hG z).kept F.1⟩, (g (by omega)).trans h16, (g (by omega)).trans h3, fun z => ?_⟩, fun t n k u1 u2 u3 => g (by omega)⟩
  exact (hc z).fx (hG rfl) (by omega) (Fr.fx (B := N3) F) (fun k => by unfold AB; omega) (fun n k => by unfold AB; omega) (fun k => ⟨by unfold AB; omega, by unfold AB; omega, by unfold AB; omega, by unfold AB; omega, by unfold AB; omega⟩) (fun k z => z)
/-- a note with another body: the paper may be written -/
theorem CJ.pwt {n : Nat} {kd : Int} (hS : SI tp td tm D) (h : CJ m tp td fl tm D a sa sb j st) (hn : n < D.1) (h1 : D.2.1 n 0 = 1) (hk : 0 ≤ kd ∧ kd ≤ 8) (y9 : gI m2 8 (sa + 1 + 2 + 2 * n) 9 = iZ kd) (y10 : gI m2 8 (sa + 1 + 2 + 2 * n) 10 = iZ 2) (y11 : gI m2 8 (sa + 1 + 2 + 2 * n) 11 = iZ 2) (y12 : gI m2 8 (sa + 1 + 2 + 2 * n) 12 = iZ (if D.2.1 n 12 = 1 ∧ ¬ (kd = 1 ∨ kd = 8) then 0 else D.2.1 n 12)) (F : Fr (AB (sa + 1 + 2 + 2 * n)) m m2) : PW m2 16 sa false tm (tryD D n kd) 0 := by
  have hR := h.note hn
  have hT := hS.try hn h1 hk
  have FA : Fr (AEd (sa + 1 + 2 + 2 * n)) m m2 := F.mono (fun t n k z => Or.inl ⟨z.1, z.2.1, by have := z.2.2; omega⟩)
  have hN : NRep m2 (sa + 1 + 2 + 2 * n) (bdF (D.2.1 n) kd) := hR.ed h1 FA bdF_same ((F.2 _ _ _ (by unfold AB; omega)).trans hR.1.2.2.2.2.2.2.2.1) y9 y10 y11 y12 (ngr_11 rfl)
  have hP := h.pw16
  obtain ⟨⟨p1, p2⟩, ⟨n1, n2, n3⟩, ht, ⟨⟨q1, q2, q3⟩, qn, qb⟩, h0, hG⟩ := hP
  have eX : nX m2 = nX m := by unfold nX; rw [F.1]
  have g : ∀ {t n k : Nat}, t ≠ 8 → gI m2 t n k = gI m t n k := fun u => F.2 _ _ _ (by unfold AB; omega)
  refine ⟨⟨p1, hT.dok⟩, ⟨by omega, by omega, by omega⟩, fun k hk => (g (by omega)).trans (ht k hk), ⟨⟨(g (by omega)).trans q1, (g (by omega)).trans q2, (g (by omega)).trans q3⟩, fun k hk => ?_, fun k hk => (g (by omega)).trans (qb k hk)⟩, (g (by omega)).trans h0, fun z => by cases z⟩
  show NRep m2 (sa + 1 + 2 + 2 * k) (upq D.2.1 n (bdF (D.2.1 n) kd) k)
  by_cases e : k = n
  · subst e; rw [upq_s]; exact hN
  · rw [upq_n e]
    exact (qn k hk).fr F (fun w => by unfold AB; omega) (fun w => by unfold AB; omega)
/-- and behind it all is as it was -/
theorem CJ.back {n n0 : Nat} {pc : Int} (h : CJ m tp td fl tm D a sa sb j st) (hn : n < 49) (F : Fr (AB (sa + 1 + 2 + 2 * n)) m m2) (hW : WL m2 m3 16 sa false tm pc D' 0 n0) (F4 : Fr (AB (sa + 1 + 2 + 2 * n)) m3 m4) (z9 : gI m4 8 (sa + 1 + 2 + 2 * n) 9 = gI m 8 (sa + 1 + 2 + 2 * n) 9) (z10 : gI m4 8 (sa + 1 + 2 + 2 * n) 10 = gI m 8 (sa + 1 + 2 + 2 * n) 10) (z11 : gI m4 8 (sa + 1 + 2 + 2 * n) 11 = gI m 8 (sa + 1 + 2 + 2 * n) 11) (z12 : gI m4 8 (sa + 1 + 2 + 2 * n) 12 = gI m 8 (sa + 1 + 2 + 2 * n) 12) : CJ m4 tp td fl tm D a sa sb j st ∧ FC m m4 ∧ FX (AV 16 false) (BV 16) m m4 := by
  obtain ⟨j0, hj, _, _, _, F3, q1, q2, q3, q4⟩ := hW
  have e := q4 rfl
  have hx := h.2.1
  have eX : nX m2 = nX m := by unfold nX; rw [F.1]
  have eS : nS m2 = nS m := by unfold nS; rw [F.1]
  have eX4 : nX m4 = nX m3 := by unfold nX; rw [F4.1]
  have eS4 : nS m4 = nS m3 := by unfold nS; rw [F4.1]
  have T : FX (AV 16 false) (BV 16) m m4 := by
    refine ⟨by omega, fun t k w hk hA => ?_, fun t k w hk hB => ?_, fun t k hk => ?_⟩
    · by_cases c : AB (sa + 1 + 2 + 2 * n) t k w
      · obtain ⟨rfl, rfl, c⟩ := c
        rcases c with rfl | rfl | rfl | rfl
        · exact z9
        · exact z10
        · exact z11
        · exact z12
      · exact (F4.2 _ _ _ c).trans ((F3.2.1 _ _ _ (by omega) hA).trans (F.2 _ _ _ c))
    · exact (Fr_gP F4 _ _ _).trans ((F3.2.2.1 _ _ _ (by omega) hB).trans (Fr_gP F _ _ _))
    · exact (Fr_gL F4 _ _).trans ((F3.2.2.2 _ _ (by omega)).trans (Fr_gL F _ _))
  have h43 : gI m4 4 4 3 = gI m 4 4 3 := (F4.2 _ _ _ (by unfold AB; omega)).trans (q3.trans (F.2 _ _ _ (by unfold AB; omega)))
  exact ⟨h.fx T ⟨by omega, by omega⟩ h43 (fun t n k z => AV16_a z) (fun t n k z => BV16_b z), FC.of T hx.1 (fun t n k u _ => nAV23 u), T⟩
theorem WL_aside {k n0 : Nat} {pc : Int} (hW : WL m2 m3 16 sa false tm pc D' 0 n0) (h : 229 < nX m2) : gI m3 8 229 k = gI m2 8 229 k := by
  obtain ⟨j0, hj, _, _, _, F3, q⟩ := hW
  exact F3.2.1 _ _ _ h (nAV (by omega))
theorem C_instead {kd : Int} {x y : Int32} (hx : x = iZ i) (hy : y = iZ kd) (ri : R32 i) (rk : R32 kd) (hS : SI tp td tm D) (h : CJ m tp td fl tm D a sa sb j st)
    (hk : ∀ m', CI m' tp td fl tm D a → FC m m' → K (some (vI (iZ (qIn tm D i kd)))) m') : smC true 127 [vR (some (0, 0)), vI x, vI y] m K := by
  subst hx; subst hy
  unfold qIn at hk
  refine smC_wp [some (vR (some (0, 0))), some (vI (iZ i)), some (vI (iZ kd)), none, none] cd_127 [] 90 OK_127 (by decide) rfl rfl (Nat.le_of_ble_eq_true rfl) ?_
  refine Exists.intro _ (And.intro h.1.2.1 ?_)
  refine And.intro trivial (c_playedNote rfl ri hS.dok h.srep (fun q1 q2 => ?_) (fun q => ?_))
  rotate_left
  · rw [if_neg q] at hk
    exact And.intro trivial (hk m ⟨sa, sb, j, st, h⟩ (FC.rf _))
  have hN : isN D i := ⟨q1.1, q1.2, q2⟩
  rw [if_pos hN] at hk
  have hn := (hS.nok hN).2
  have h48 := hS.dok.1
  have hsa := h.1.1
  refine And.intro trivial (c_isBody rk (fun z => ?_) (fun z => ?_))
  rotate_left
  · rw [if_neg z] at hk
    refine And.intro (fun z => absurd rfl z) (fun _ => ?_)
    exact And.intro trivial (hk m ⟨sa, sb, j, st, h⟩ (FC.rf _))
  rw [if_pos z] at hk
  refine And.intro (fun _ => ?_) (fun z => absurd z (by decide))
  refine And.intro trivial (c_takeBodyOf (by omega) (fun m1 a9 a10 a11 a12 F1 => ?_))
  obtain ⟨h1, FC1⟩ := h.aside hS F1
  have hR := h1.note hn
  have r12 := (hS.nok hN).1.2.2.2.2.2.2.2.2.2.1
  refine And.intro trivial (c_putBody (bh := D.2.1 i.toNat 12) rfl rk (by constructor <;> omega) hR.1.2.2.2.2.2.2.2.2.2 (fun m2 y9 y10 y11 y12 F2 => ?_))
  have P2 := h1.pwt hS hn q2 z y9 y10 y11 y12 F2
  have hT := hS.try hn q2 z
  refine Exists.intro _ (And.intro ((Fr_gP F2 _ _ _).trans h1.1.2.1) ?_)
  refine And.intro vp5 ?_
  refine Exists.intro _ (And.intro ((Fr_gP F2 _ _ _).trans h1.1.2.1) ?_)
  refine And.intro trivial (c_onPaper (pc := tm 5) (many := (D.1 : Int)) (P2.2.2.1 5 (by decide)) P2.2.2.2.1.1.1 (by constructor <;> omega) hS.t5 P2 (fun m3 hW => ?_))
  rw [show min ((D.1 : Int).toNat) (tryD D i.toNat kd).1 = D.1 from by show min ((D.1 : Int).toNat) D.1 = D.1; omega] at hW
  have x2 : 229 < nX m2 := by
    have e : nX m2 = nX m1 := by unfold nX; rw [F2.1]
    have := h1.2.1.1
    omega
  have w3 := fun k : Nat => WL_aside (k := k) hW x2
  refine And.intro trivial (c_takeBodyOf (by omega) (fun m4 b9 b10 b11 b12 F4 => ?_))
  have g2 : ∀ k, gI m2 8 229 k = gI m1 8 229 k := fun k => F2.2 _ _ _ (by omega)
  have g1 : ∀ k, gI m1 8 (sa + 1 + 2 + 2 * i.toNat) k = gI m 8 (sa + 1 + 2 + 2 * i.toNat) k := fun k => F1.2 _ _ _ (by unfold AB; omega)
  obtain ⟨h4, FC4, _⟩ := h1.back (by omega) F2 hW F4 (by rw [b9, w3, g2, a9, g1]) (by rw [b10, w3, g2, a10, g1]) (by rw [b11, w3, g2, a11, g1]) (by rw [b12, w3, g2, a12, g1])
  have hk := hk m4 ⟨sa, sb, j, st, h4⟩ (FC1.tr FC4)
  refine And.intro trivial ?_
  rw [hW.scr.len]
  exact hk
end OPSB
