/-! writeNote: the middle -/
def tmOK (tm : Nat → Int) : Prop := (20 ≤ tm 0 ∧ tm 0 ≤ 250) ∧ (tm 1 = 8 ∨ tm 1 = 16 ∨ tm 1 = 32 ∨ tm 1 = 64) ∧ (0 ≤ tm 2 ∧ tm 2 ≤ 1) ∧ (0 ≤ tm 3 ∧ tm 3 ≤ 1) ∧ (0 ≤ tm 4 ∧ tm 4 ≤ 1) ∧ (25 ≤ tm 5 ∧ tm 5 ≤ 400) ∧ (0 ≤ tm 6 ∧ tm 6 ≤ 1)
theorem dbl_rng {lim sp pc : Int} (hl : 0 ≤ lim ∧ lim ≤ 250) (hs : 0 ≤ sp ∧ sp ≤ 400) (hp : 0 ≤ pc ∧ pc ≤ 400) : ∀ (f : Nat) (t : Int), 8 ≤ t ∧ t ≤ 2000 → 8 ≤ dbl lim sp pc f t ∧ dbl lim sp pc f t ≤ 2000
  | 0, t, h => h
  | f + 1, t, h => by
    unfold dbl
    split
    · rename_i hq
      have := qk_dn hl hs hp hq
      exact dbl_rng hl hs hp f (t * 2) (by omega)
    · exact h
theorem wT_rng {tm : Nat → Int} {pc : Int} {f : NF} (ht : tmOK tm) (hf : NOK f) (hp : 0 ≤ pc ∧ pc ≤ 400) : 8 ≤ wT tm pc f ∧ wT tm pc f ≤ 2000 := by
  unfold wT tnN
  have h9 := hf.2.2.2.2.2.2.1
  have h0 := ht.1
  refine dbl_rng (by omega) (by omega) hp 16 _ ?_
  rcases ht.2.1 with e | e | e | e <;> rw [e] <;> decide
section WRITE2
variable {m : Mem} {K : Option SV → Mem → Prop} {sc i nn cap : Nat} {kp : Bool} {pc l a : Int} {s : WS} {tm : Nat → Int} {nx : NX} {f : NF}
def A5 : Nat → Nat → Nat → Prop := fun t n k => (t = 4 ∧ n = 4 ∧ (k = 10 ∨ k = 11 ∨ k = 13)) ∨ (t = 17 ∧ n = 26)
theorem nA5 {t n k : Nat} (h4 : t ≠ 4) (h17 : t ≠ 17) : ¬ A5 t n k := by unfold A5; omega
theorem A5_AN {sc i : Nat} {kp : Bool} {t n k : Nat} (z : A5 t n k) : AN sc kp i t n k := by
  rcases z with ⟨z1, z2, z3 | z3 | z3⟩ | ⟨z1, z2⟩
  · exact Or.inr (Or.inr (Or.inl ⟨z1, z2, z3⟩))
  · exact Or.inl (Or.inr (Or.inr (Or.inr (Or.inr ⟨z1, z2, Or.inl z3⟩))))
  · exact Or.inl (Or.inr (Or.inr (Or.inr (Or.inr ⟨z1, z2, Or.inr z3⟩))))
  · exact Or.inr (Or.inr (Or.inr ⟨z1, z2⟩))
theorem RepS.fr5 {m' : Mem} {ts : List Tn} {lk : Bool} {cur : Int} (h : RepS m sc kp cap ts lk cur) (hF : Fr A5 m m') : RepS m' sc kp cap ts lk cur :=
  h.fr hF (fun k _ => by unfold A5; omega) (fun n k => by unfold A5; omega)
theorem write_m2 {m1 : Mem} (htm : tmOK tm) (hf : NOK f) (h1 : f 0 = 1) (rpc : 0 ≤ pc ∧ pc ≤ 400) (hi : i < 48) (g5 : gP m 4 4 5 = some (6, sc)) (g8 : gP m 4 4 8 = some (8, nn)) (g9 : gP m 4 4 9 = nx.map (fun z => (8, z.1))) (i7 : gI m 4 4 7 = iZ i) (i6 : gI m 4 4 6 = iZ pc) (ht : ∀ k, k < 7 → gI m 5 5 k = iZ (tm k))
    (hN : NRep m nn f) (hx : ∀ z, nx = some z → gI m 8 z.1 0 = iZ (pit z.2.1 z.2.2) ∧ okP z.2) (hR : RepS m sc kp cap s.1 s.2.1 s.2.2) (hW : WOK s) (hcap : s.1.length + 73 ≤ cap) (hl : gI m 6 sc 10 = iZ l) (ha : gI m 6 sc 11 = iZ a) (h13 : gI m 13 (sc + 2) i = iZ s.1.length) (h15 : gI m 15 (sc + 4) i = 0) (h16 : gI m 16 (sc + 5) i = 0)
    (F : Fr A5 m m1) (e10 : gI m1 4 4 10 = iZ (wT tm pc f)) (e11 : gI m1 4 4 11 = iZ (f 5)) (e13 : gI m1 4 4 13 = 0) (p0 : gI m1 17 26 0 = iZ (pit (Pk (tm 3) f 0).1 (Pk (tm 3) f 0).2)) (p1 : gI m1 17 26 1 = iZ (pit (Pk (tm 3) f 1).1 (Pk (tm 3) f 1).2)) (p2 : gI m1 17 26 2 = iZ (pit (Pk (tm 3) f 2).1 (Pk (tm 3) f 2).2)) (p4 : gI m1 17 26 4 = iZ (pit (Pk (tm 3) f 4).1 (Pk (tm 3) f 4).2))
    (h : ∀ m', RepS m' sc kp cap (wN tm pc f nx i s).1.1 (wN tm pc f nx i s).1.2.1 (wN tm pc f nx i s).1.2.2 → WOK (wN tm pc f nx i s).1 → Fr (AN sc kp i) m m' → Res m' sc i s.1.length (wN tm pc f nx i s).1.1.length (wN tm pc f nx i s).2.1 (wN tm pc f nx i s).2.2.1 (wN tm pc f nx i s).2.2.2 →
      gI m' 6 sc 10 = iZ (l + v3 2 (wN tm pc f nx i s).2.1) → gI m' 6 sc 11 = iZ (a + v3 3 (wN tm pc f nx i s).2.1) → K none m') : smE true 63 201 [some (vR (some (4, 4))), some (vI (iZ i)), none, none] [] m1 K := by
  have hT := wT_rng htm hf rpc
  have hok := Pk_ok (hold := tm 3) hf h1
  have epit : nPit f = pit (f 3) (nStep f) := by unfold nPit; rw [if_pos h1]
  have hsp := hf.2.2.2.2.2.2.1
  have hbd := hf.2.2.2.2.2.2.2.1
  have hbh := hf.2.2.2.2.2.2.2.2.2.1
  have t0 := htm.1
  have r8 : ∀ n k, gI m1 8 n k = gI m 8 n k := fun n k => F.2 8 n k (nA5 (by decide) (by decide))
  have gg : ∀ t n k, gP m1 t n k = gP m t n k := fun t n k => Fr_gP F t n k
  refine write_note (tm := tm) (pc := pc) (f := f) (nx := nx) (kp := kp) (cap := cap) (s := s) (l := l) (a := a) (sc := sc) (nn := nn) hf h1 ⟨⟨(gg _ _ _).trans g5, (gg _ _ _).trans g8⟩, ⟨(F.2 4 4 7 (by unfold A5; decide)).trans i7, e10⟩, ⟨p0, p1, p2, p4⟩, ?_, ⟨hi, hT.1, hT.2⟩, hok.1, hok.2.1⟩ ⟨?_, ⟨(F.2 4 4 6 (by unfold A5; decide)).trans i6, ?_, ?_, ?_⟩, ⟨(gg _ _ _).trans g9, ?_⟩, ⟨by omega, htm.2.2.1, htm.2.2.2.2.1, htm.2.2.2.2.2.2⟩, by omega, rpc, hbd, hbh⟩ ?_ ?_ ?_ ⟨hR.fr5 F, ⟨e11, ?_, ?_, e13⟩, hW, Fr.rf _ _⟩ hcap ?_ ?_ ?_ ?_
  · rw [r8, hN.1.1, epit]; rfl
  · intro k hk; rw [F.2 5 5 k (nA5 (by decide) (by decide))]; exact ht k hk
  · rw [r8]; exact hN.1.2.2.2.2.2.1
  · rw [r8]; exact hN.1.2.2.2.2.2.2.2.2.1
  · rw [r8]; exact hN.1.2.2.2.2.2.2.2.2.2
  · intro z hz; rw [r8]; exact hx z hz
  · rw [r8]; exact hN.1.2.2.2.2.2.2.2.1
  · intro j hj; rw [F.2 9 _ _ (nA5 (by decide) (by decide))]; exact (hN.2 h1).2 j hj
  · rw [r8]; exact hN.1.2.2.1
  · rw [F.2 15 _ _ (nA5 (by decide) (by decide)), h15, L0]
  · rw [F.2 16 _ _ (nA5 (by decide) (by decide)), h16, L0]
  · rw [F.2 6 _ _ (nA5 (by decide) (by decide))]; exact hl
  · rw [F.2 6 _ _ (nA5 (by decide) (by decide))]; exact ha
  · rw [F.2 13 _ _ (nA5 (by decide) (by decide))]; exact h13
  · intro m' q1 q2 q3 q4 q5 q6
    exact h m' q1 q2 ((F.mono (fun t n k z => A5_AN z)).tr q3) q4 q5 q6
theorem write_mid (htm : tmOK tm) (hf : NOK f) (rpc : 0 ≤ pc ∧ pc ≤ 400) (hi : i < 48) (g5 : gP m 4 4 5 = some (6, sc)) (g8 : gP m 4 4 8 = some (8, nn)) (g9 : gP m 4 4 9 = nx.map (fun z => (8, z.1))) (i7 : gI m 4 4 7 = iZ i) (i6 : gI m 4 4 6 = iZ pc) (ht : ∀ k, k < 7 → gI m 5 5 k = iZ (tm k))
    (hN : NRep m nn f) (hx : ∀ z, nx = some z → gI m 8 z.1 0 = iZ (pit z.2.1 z.2.2) ∧ okP z.2) (hR : RepS m sc kp cap s.1 s.2.1 s.2.2) (hW : WOK s) (hcap : s.1.length + 73 ≤ cap) (hl : gI m 6 sc 10 = iZ l) (ha : gI m 6 sc 11 = iZ a) (h13 : gI m 13 (sc + 2) i = iZ s.1.length) (h15 : gI m 15 (sc + 4) i = 0) (h16 : gI m 16 (sc + 5) i = 0)
    (h : ∀ m', RepS m' sc kp cap (wN tm pc f nx i s).1.1 (wN tm pc f nx i s).1.2.1 (wN tm pc f nx i s).1.2.2 → WOK (wN tm pc f nx i s).1 → Fr (AN sc kp i) m m' → Res m' sc i s.1.length (wN tm pc f nx i s).1.1.length (wN tm pc f nx i s).2.1 (wN tm pc f nx i s).2.2.1 (wN tm pc f nx i s).2.2.2 →
      gI m' 6 sc 10 = iZ (l + v3 2 (wN tm pc f nx i s).2.1) → gI m' 6 sc 11 = iZ (a + v3 3 (wN tm pc f nx i s).2.1) → K none m') : smE true 63 40 [some (vR (some (4, 4))), some (vI (iZ i)), none, none] [] m K := by
  have hnp := nPit_R hf
  refine wp_ok (by decide) OK_63 (cc := cd_63) rfl (stops := [76]) 60 _ _ _ _ ?_
  refine Exists.intro _ (And.intro g8 ?_)
  refine And.intro trivial (c_isRest hnp.1 hN.1.1 (fun z => ?_) (fun z => ?_))
  · refine And.intro (fun w => absurd w (by decide)) (fun _ => ?_)
    have h0 : f 0 = 0 := hnp.2.mp z
    have eN : wN tm pc f nx i s = ((s.1, false, s.2.2 + f 5), (0, 0, 0), 0, 0) := by unfold wN; rw [if_neg (by omega)]
    rw [eN] at h
    refine Exists.intro _ (And.intro g5 ?_)
    refine Exists.intro _ (And.intro g8 ?_)
    refine And.intro trivial (c_addRest hN.1.2.2.1 hR (fun m1 R1 F1 => ?_))
    have F1' : Fr (AW sc kp i) m m1 := F1.fr
    refine Exists.intro _ (And.intro ((Fr_gP F1' 4 4 5).trans g5) ?_)
    refine And.intro trivial (c_close rfl L0 L0 L0 hi (by decide) (by decide) (by decide) ((F1'.2 6 sc 10 (by unfold AW; omega)).trans hl) ((F1'.2 6 sc 11 (by unfold AW; omega)).trans ha) R1.1.2.1 ((F1'.2 13 (sc + 2) i (by unfold AW; omega)).trans h13) (fun m5 F5 c1 c2 c3 c4 c5 c6 => ?_))
    have o15 : gI m1 15 (sc + 4) i = 0 := by rw [F1.1 15 (by decide) (by decide)]; exact h15
    have o16 : gI m1 16 (sc + 5) i = 0 := by rw [F1.1 16 (by decide) (by decide)]; exact h16
    refine And.intro trivial (h m5 (R1.fr F5 (fun k hk => by unfold AC; omega) (fun n k => by unfold AC; omega)) ⟨fun q => absurd q (by simp), hW.2⟩ ?_ ⟨?_, c1, ⟨c2, c3, c4⟩, ?_, ?_⟩ c5 c6)
    · exact (F1'.mono (fun t n k z => Or.inl z)).tr (F5.mono (fun t n k z => Or.inr (Or.inl z)))
    · rw [F5.2 13 (sc + 2) i (by unfold AC; omega)]; exact (F1'.2 13 (sc + 2) i (by unfold AW; omega)).trans h13
    · rw [F5.2 15 (sc + 4) i (by unfold AC; omega), o15, L0]
    · rw [F5.2 16 (sc + 5) i (by unfold AC; omega), o16, L0]
  · refine And.intro (fun _ => ?_) (fun w => absurd rfl w)
    have h1 : f 0 = 1 := by
      rcases hf.1 with w | w
      · have := hnp.2.mpr w; omega
      · exact w
    refine And.intro trivial ?_
    have hp := hf.pit h1
    have hsg := (hf.2.2.2.2.2.2.2.2.2.2.2 h1).2.1
    have hkey := hf.2.2.2.2.2.1
    have hsp := hf.2.2.2.2.2.2.1
    have h0 := htm.1
    have h3 := htm.2.2.2.1
    have hT := wT_rng htm hf rpc
    have epit : nPit f = pit (f 3) (nStep f) := by unfold nPit; rw [if_pos h1]
    have hN2 := hN.2 h1
    have hok := Pk_ok (hold := tm 3) hf h1
    refine wp1_ok (by decide) OK_63 (cc := cd_63) rfl (stops := [201]) (f := 90) ?_
    refine Exists.intro _ (And.intro g8 ?_)
    refine And.intro trivial (c_toneAt (lim := tm 0) (tone := tm 1) hN.1.2.2.2.2.2.1 i6 (ht 0 (by decide)) (ht 1 (by decide)) htm.2.1 (by omega) (by omega) rpc ?_)
    refine Exists.intro _ (And.intro g8 ?_)
    refine Exists.intro _ (And.intro g8 ?_)
    refine And.intro (by rw [L0, iZ_in (by decide)]; decide) ?_
    refine Exists.intro _ (And.intro g8 ?_)
    refine Exists.intro _ (And.intro g8 ?_)
    refine And.intro (by rw [L3, iZ_in (by decide)]; decide) ?_
    refine And.intro trivial (c_upperIn (num := f 3) (s := nStep f) (up := f 13) (hu := f 15) (key := f 8) (hold := tm 3) (by simp only [gI_s]; simp; exact hN.1.2.2.2.2.1) (by simp only [gI_s]; simp; exact ht 3 (by decide)) (by omega) (by omega) hsg.1 hsg.2.2.1 hkey (by constructor <;> omega) (by simp only [gI_s]; simp; rw [hN.1.1, epit]) (by simp only [gI_s]; simp; exact hN2.1.1) (by simp only [gI_s]; simp; exact hN2.1.2.2.1) ?_)
    refine And.intro (by rw [L1, iZ_in (by decide)]; decide) ?_
    refine Exists.intro _ (And.intro g8 ?_)
    refine Exists.intro _ (And.intro g8 ?_)
    refine And.intro (by rw [L3, iZ_in (by decide)]; decide) ?_
    refine And.intro trivial (c_lowerIn (num := f 3) (s := nStep f) (dn := f 14) (hl := f 16) (key := f 8) (hold := tm 3) (by simp only [gI_s]; simp; exact hN.1.2.2.2.2.1) (by simp only [gI_s]; simp; exact ht 3 (by decide)) (by omega) (by omega) hsg.2.1 hsg.2.2.2.1 hkey (by constructor <;> omega) (by simp only [gI_s]; simp; rw [hN.1.1, epit]) (by simp only [gI_s]; simp; exact hN2.1.2.1) (by simp only [gI_s]; simp; exact hN2.1.2.2.2.1) ?_)
    refine And.intro (by rw [L2, iZ_in (by decide)]; decide) ?_
    refine Exists.intro _ (And.intro g8 ?_)
    refine And.intro (by rw [L2, iZ_in (by decide)]; decide) ?_
    refine And.intro (by rw [L3, iZ_in (by decide)]; decide) ?_
    have hlow := hok.1.2.2.1
    change okP (dnN (f 3) (nStep f) (f 14) (f 16) (f 8) (tm 3), nStep f - 1) at hlow
    refine And.intro trivial (c_lowIn (num := f 3) (s := nStep f) (low := dnN (f 3) (nStep f) (f 14) (f 16) (f 8) (tm 3)) (hl := f 17) (key := f 8) (hold := tm 3) (by simp only [gI_s]; simp) (by simp only [gI_s]; simp; exact ht 3 (by decide)) (by omega) hlow.1 (by omega) hsg.2.2.2.2 hkey (by constructor <;> omega) (by simp only [gI_s]; simp; rw [hN.1.1, epit]) (by simp only [gI_s]; simp; exact hN.1.2.2.2.2.1) (by simp only [gI_s]; simp; exact hN2.1.2.2.2.2) ?_)
    refine And.intro (by rw [L4, iZ_in (by decide)]; decide) ?_
    refine And.intro (Or.inl rfl) ?_
    refine And.intro trivial ?_
    refine write_m2 htm hf h1 rpc hi g5 g8 g9 i7 i6 ht hN hx hR hW hcap hl ha h13 h15 h16 ?_ ?_ ?_ ?_ ?_ ?_ ?_ ?_ h
    · exact ((((((Fr.st (Or.inl ⟨rfl, rfl, Or.inl rfl⟩)).tr (Fr.st (Or.inl ⟨rfl, rfl, Or.inr (Or.inl rfl)⟩))).tr (Fr.st (Or.inr ⟨rfl, rfl⟩))).tr (Fr.st (Or.inr ⟨rfl, rfl⟩))).tr (Fr.st (Or.inr ⟨rfl, rfl⟩))).tr (Fr.st (Or.inr ⟨rfl, rfl⟩))).tr (Fr.st (Or.inl ⟨rfl, rfl, Or.inr (Or.inr rfl)⟩))
    · simp only [gI_s]; simp; rfl
    · simp only [gI_s]; simp; exact hN.1.2.2.1
    · simp only [gI_s]; simp
    · simp only [gI_s]; simp; rw [hN.1.1, epit]; rfl
    · simp only [gI_s]; simp; rfl
    · simp only [gI_s]; simp; rfl
    · simp only [gI_s]; simp; rfl
end WRITE2
