/-! THE TEXT: what always holds of what has been read -/
/-- D: N 1, notes 2.1, bars 2.2.1, begins of bars 2.2.2.1, end 2.2.2.2 -/
def BRK (D : Dt) : Prop := (0 < D.2.2.1 → D.2.2.2.1 0 = 0) ∧ (∀ k, k + 1 < D.2.2.1 → D.2.2.2.1 k < D.2.2.2.1 (k + 1)) ∧ (∀ k, k < D.2.2.1 → 0 ≤ D.2.2.2.1 k ∧ D.2.2.2.1 k ≤ D.2.2.2.2) ∧ (D.2.2.1 = 0 → D.1 = 0)
def SOK (D : Dt) (be : Int) (p : Nat) : Prop :=
  D.1 ≤ 48 ∧ (∀ i, i < D.1 → NOK (D.2.1 i) ∧ D.2.1 i 7 ≤ p ∧ D.2.1 i 6 < D.2.2.1) ∧ BOK D ∧ (0 ≤ D.2.2.2.2 ∧ D.2.2.2.2 ≤ be ∧ be ≤ 8192 * D.2.2.1) ∧ 7 * D.2.2.1 ≤ p ∧ (D.2.2.1 = 0 → D.2.2.2.2 = be) ∧ BRK D ∧ (0 < D.2.2.1 → D.2.2.2.1 (D.2.2.1 - 1) < be)
def KOK (k : Int × Int × Int × Int) : Prop := (-7 ≤ k.1 ∧ k.1 ≤ 7) ∧ (20 ≤ k.2.1 ∧ k.2.1 ≤ 400) ∧ (16 ≤ k.2.2.1 ∧ k.2.2.1 ≤ 8192)
def POK (tp : Nat → Int) (n : Nat) (p : PS) (q : Nat) : Prop := TOK tp n p.1 ∧ KOK p.2.1 ∧ TDOK p.2.2.1 ∧ SOK p.2.2.2 p.2.1.2.2.2 q
theorem SOK.mono {D : Dt} {be : Int} {p q : Nat} (h : SOK D be p) (hpq : p ≤ q) : SOK D be q := by
  obtain ⟨h1, h2, h3, h4, h5, h6, h7, h8⟩ := h
  exact ⟨h1, fun i hi => ⟨(h2 i hi).1, by have := (h2 i hi).2.1; omega, (h2 i hi).2.2⟩, h3, h4, by omega, h6, h7, h8⟩
theorem td2 : TDOK (fun _ => 2) := fun k _ => ⟨by show (-1 : Int) ≤ 2; decide, by show (2 : Int) ≤ 2; decide⟩
theorem openB_tok (p : PS) : (openB p).1 = p.1 ∧ (openB p).2.1.1 = p.2.1.1 ∧ (openB p).2.1.2.1 = p.2.1.2.1 ∧ (openB p).2.1.2.2.1 = p.2.1.2.2.1 ∧ (openB p).2.2.2.1 = p.2.2.2.1 ∧ (openB p).2.2.2.2.1 = p.2.2.2.2.1 ∧ (openB p).2.2.2.2.2.2.2 = p.2.2.2.2.2.2.2 := by
  unfold openB; split <;> exact ⟨rfl, rfl, rfl, rfl, rfl, rfl, rfl⟩
theorem openB_ok {tp : Nat → Int} {n q : Nat} {p : PS} (h : POK tp n p q) (hq : q ≤ 800) : POK tp n (openB p) (q + 7) ∧ 0 < (openB p).2.2.2.2.2.1 ∧ (openB p).2.2.2.2.2.1 ≤ 115 := by
  obtain ⟨ht, ⟨k1, k2, k3⟩, htd, h1, h2, h3, h4, h5, h6, ⟨h7, h8, h9, h10⟩, h11⟩ := h
  unfold openB
  by_cases hc : p.2.2.2.2.2.2.2 = p.2.1.2.2.2
  · rw [if_pos hc]
    refine ⟨⟨ht, ⟨k1, k2, k3⟩, td2, h1, fun i hi => ?_, h3, ?_, ?_, ?_, ⟨?_, ?_, ?_, ?_⟩, ?_⟩, Nat.succ_pos _, by show p.2.2.2.2.2.1 + 1 ≤ 115; omega⟩
    · have := h2 i hi
      exact ⟨this.1, by show p.2.2.2.2.1 i 7 ≤ ((q + 7 : Nat) : Int); omega, by show p.2.2.2.2.1 i 6 < ((p.2.2.2.2.2.1 + 1 : Nat) : Int); omega⟩
    · show 0 ≤ p.2.2.2.2.2.2.2 ∧ p.2.2.2.2.2.2.2 ≤ p.2.1.2.2.2 + p.2.1.2.2.1 ∧ p.2.1.2.2.2 + p.2.1.2.2.1 ≤ 8192 * ((p.2.2.2.2.2.1 + 1 : Nat) : Int)
      omega
    · show 7 * (p.2.2.2.2.2.1 + 1) ≤ q + 7; omega
    · intro z; exact absurd z (by show ¬ p.2.2.2.2.2.1 + 1 = 0; omega)
    · intro _
      show upq p.2.2.2.2.2.2.1 p.2.2.2.2.2.1 p.2.2.2.2.2.2.2 0 = 0
      unfold upq
      by_cases e : 0 = p.2.2.2.2.2.1
      · rw [if_pos e]; have := h6 e.symm; omega
      · rw [if_neg e]; exact h7 (by omega)
    · intro k hk
      have hk : k + 1 < p.2.2.2.2.2.1 + 1 := hk
      show upq p.2.2.2.2.2.2.1 p.2.2.2.2.2.1 p.2.2.2.2.2.2.2 k < upq p.2.2.2.2.2.2.1 p.2.2.2.2.2.1 p.2.2.2.2.2.2.2 (k + 1)
      unfold upq
      rw [if_neg (by omega)]
      by_cases e : k + 1 = p.2.2.2.2.2.1
      · rw [if_pos e]
        have := h11 (by omega)
        rw [show p.2.2.2.2.2.1 - 1 = k by omega] at this
        omega
      · rw [if_neg e]; exact h8 k (by omega)
    · intro k hk
      have hk : k < p.2.2.2.2.2.1 + 1 := hk
      show 0 ≤ upq p.2.2.2.2.2.2.1 p.2.2.2.2.2.1 p.2.2.2.2.2.2.2 k ∧ upq p.2.2.2.2.2.2.1 p.2.2.2.2.2.1 p.2.2.2.2.2.2.2 k ≤ p.2.2.2.2.2.2.2
      unfold upq
      split
      · omega
      · exact h9 k (by omega)
    · intro z; exact absurd z (by show ¬ p.2.2.2.2.2.1 + 1 = 0; omega)
    · intro _
      show upq p.2.2.2.2.2.2.1 p.2.2.2.2.2.1 p.2.2.2.2.2.2.2 (p.2.2.2.2.2.1 + 1 - 1) < p.2.1.2.2.2 + p.2.1.2.2.1
      rw [Nat.add_sub_cancel, upq_s]; omega
  · rw [if_neg hc]
    have hb : p.2.2.2.2.2.1 ≠ 0 := fun z => hc (h6 z)
    exact ⟨⟨ht, ⟨k1, k2, k3⟩, htd, SOK.mono ⟨h1, h2, h3, h4, h5, h6, ⟨h7, h8, h9, h10⟩, h11⟩ (by omega)⟩, by omega, by omega⟩
/-- a note is added -/
theorem addN_ok {D : Dt} {be l : Int} {p : Nat} {f : NF} (h : SOK D be p) (hN : D.1 < 48) (hb : 0 < D.2.2.1) (hl : 0 ≤ l) (he : D.2.2.2.2 + l ≤ be) (hf : NOK f) (f4 : f 4 = D.2.2.2.2) (f5 : f 5 = l) (f6 : f 6 = (D.2.2.1 : Int) - 1) (f7 : f 7 = 0) : SOK (addN D f l) be p := by
  obtain ⟨h1, h2, ⟨b1, b2, b3, b4⟩, h4, h5, h6, ⟨h7, h8, h9, h10⟩, h11⟩ := h
  have u : ∀ i, i ≠ D.1 → upq D.2.1 D.1 f i = D.2.1 i := fun i hi => by unfold upq; rw [if_neg hi]
  refine ⟨by show D.1 + 1 ≤ 48; omega, fun i hi => ?_, ⟨fun _ => ?_, fun i hi => ?_, fun i hi => ?_, fun z => absurd z (by show ¬ D.1 + 1 = 0; omega)⟩, by show 0 ≤ D.2.2.2.2 + l ∧ D.2.2.2.2 + l ≤ be ∧ be ≤ 8192 * (D.2.2.1 : Int); omega, h5, fun z => absurd z (by show ¬ D.2.2.1 = 0; omega), ⟨h7, h8, fun k hk => ?_, fun z => absurd z (by show ¬ D.2.2.1 = 0; omega)⟩, h11⟩
  · have hi : i < D.1 + 1 := hi
    show NOK (upq D.2.1 D.1 f i) ∧ upq D.2.1 D.1 f i 7 ≤ p ∧ upq D.2.1 D.1 f i 6 < D.2.2.1
    by_cases e : i = D.1
    · subst e; rw [upq_s]; exact ⟨hf, by omega, by omega⟩
    · rw [u i e]; exact h2 i (by omega)
  · show upq D.2.1 D.1 f 0 4 = 0
    by_cases e : 0 = D.1
    · rw [← e, upq_s, f4]; exact b4 e.symm
    · rw [u 0 e]; exact b1 (by omega)
  · have hi : i + 1 < D.1 + 1 := hi
    show upq D.2.1 D.1 f (i + 1) 4 = upq D.2.1 D.1 f i 4 + upq D.2.1 D.1 f i 5
    rw [u i (by omega)]
    by_cases e : i + 1 = D.1
    · rw [e, upq_s, f4]; exact b3 i e
    · rw [u (i + 1) e]; exact b2 i (by omega)
  · have hi : i + 1 = D.1 + 1 := hi
    have e : i = D.1 := by omega
    subst e
    show D.2.2.2.2 + l = upq D.2.1 D.1 f D.1 4 + upq D.2.1 D.1 f D.1 5
    rw [upq_s, f4, f5]
  · have := h9 k hk
    show 0 ≤ D.2.2.2.1 k ∧ D.2.2.2.1 k ≤ D.2.2.2.2 + l
    omega
theorem tieF_ne {f : NF} {l : Int} {w : Nat} (h5 : w ≠ 5) (h7 : w ≠ 7) : tieF f l w = f w := by unfold tieF; rw [if_neg h5, if_neg h7]
theorem tie_ok {D : Dt} {be l : Int} {p q : Nat} (h : SOK D be p) (hN : 0 < D.1) (h1 : D.2.1 (D.1 - 1) 0 = 1) (hl : 16 ≤ l ∧ l % 16 = 0) (he : D.2.2.2.2 + l ≤ be) (hbe : be ≤ 1000000) (hpq : p ≤ q) (hq7 : D.2.1 (D.1 - 1) 7 + 1 ≤ q) (hq8 : D.2.1 (D.1 - 1) 7 + 1 ≤ 800) : SOK (D.1, upq D.2.1 (D.1 - 1) (tieF (D.2.1 (D.1 - 1)) l), D.2.2.1, D.2.2.2.1, D.2.2.2.2 + l) be q := by
  obtain ⟨g1, h2, ⟨b1, b2, b3, b4⟩, h4, h5, h6, ⟨h7, h8, h9, h10⟩, h11⟩ := h
  have u : ∀ i, i ≠ D.1 - 1 → upq D.2.1 (D.1 - 1) (tieF (D.2.1 (D.1 - 1)) l) i = D.2.1 i := fun i hi => by unfold upq; rw [if_neg hi]
  have t5 : tieF (D.2.1 (D.1 - 1)) l 5 = D.2.1 (D.1 - 1) 5 + l := rfl
  have t4 : tieF (D.2.1 (D.1 - 1)) l 4 = D.2.1 (D.1 - 1) 4 := rfl
  have e3 := b3 (D.1 - 1) (by omega)
  have hn0 := h2 (D.1 - 1) (by omega)
  have hb : 0 < D.2.2.1 := by
    rcases Nat.eq_zero_or_pos D.2.2.1 with z | z
    · have := h10 z; omega
    · exact z
  have hnf : NOK (tieF (D.2.1 (D.1 - 1)) l) := by
    obtain ⟨a0, a4, a5, a6, a7, a8, a9, a10, a11, a12, a13, a14⟩ := hn0.1
    refine ⟨a0, a4, ?_, a6, ?_, a8, a9, a10, a11, a12, a13, fun z => ⟨(a14 z).1, (a14 z).2.1, fun j hj => ?_⟩⟩
    · rw [t5]; omega
    · show 0 ≤ D.2.1 (D.1 - 1) 7 + 1 ∧ D.2.1 (D.1 - 1) 7 + 1 ≤ 800
      omega
    · rw [tieF_ne (by omega) (by omega), tieF_ne (by omega) (by omega), tieF_ne (by omega) (by omega)]
      exact (a14 z).2.2 j hj
  refine ⟨g1, fun i hi => ?_, ⟨fun hz => ?_, fun i hi => ?_, fun i hi => ?_, fun z => absurd z (by show ¬ D.1 = 0; omega)⟩, by show 0 ≤ D.2.2.2.2 + l ∧ D.2.2.2.2 + l ≤ be ∧ be ≤ 8192 * (D.2.2.1 : Int); omega, by show 7 * D.2.2.1 ≤ q; omega, fun z => absurd z (by show ¬ D.2.2.1 = 0; omega), ⟨h7, h8, fun k hk => ?_, fun z => absurd z (by show ¬ D.2.2.1 = 0; omega)⟩, h11⟩
  · have hi : i < D.1 := hi
    show NOK (upq D.2.1 (D.1 - 1) (tieF (D.2.1 (D.1 - 1)) l) i) ∧ upq D.2.1 (D.1 - 1) (tieF (D.2.1 (D.1 - 1)) l) i 7 ≤ q ∧ upq D.2.1 (D.1 - 1) (tieF (D.2.1 (D.1 - 1)) l) i 6 < D.2.2.1
    by_cases e : i = D.1 - 1
    · rw [e, upq_s]
      refine ⟨hnf, ?_, hn0.2.2⟩
      show D.2.1 (D.1 - 1) 7 + 1 ≤ q
      exact hq7
    · rw [u i e]
      have := h2 i hi
      exact ⟨this.1, by omega, this.2.2⟩
  · show upq D.2.1 (D.1 - 1) (tieF (D.2.1 (D.1 - 1)) l) 0 4 = 0
    by_cases e : 0 = D.1 - 1
    · rw [← e, upq_s]; exact b1 hN
    · rw [u 0 e]; exact b1 hN
  · have hi : i + 1 < D.1 := hi
    show upq D.2.1 (D.1 - 1) (tieF (D.2.1 (D.1 - 1)) l) (i + 1) 4 = upq D.2.1 (D.1 - 1) (tieF (D.2.1 (D.1 - 1)) l) i 4 + upq D.2.1 (D.1 - 1) (tieF (D.2.1 (D.1 - 1)) l) i 5
    rw [u i (by omega)]
    by_cases e : i + 1 = D.1 - 1
    · rw [e, upq_s, t4, ← e]; exact b2 i hi
    · rw [u (i + 1) e]; exact b2 i hi
  · have hi : i + 1 = D.1 := hi
    have e : i = D.1 - 1 := by omega
    subst e
    show D.2.2.2.2 + l = upq D.2.1 (D.1 - 1) (tieF (D.2.1 (D.1 - 1)) l) (D.1 - 1) 4 + upq D.2.1 (D.1 - 1) (tieF (D.2.1 (D.1 - 1)) l) (D.1 - 1) 5
    rw [upq_s, t4, t5]; omega
  · have := h9 k hk
    show 0 ≤ D.2.2.2.1 k ∧ D.2.2.2.1 k ≤ D.2.2.2.2 + l
    omega
theorem mkF_g {L : List Int} {gs : Nat → Int × Int × Int} {j : Nat} (h : j < 4) : mkF L gs (18 + j) = (gs j).1 ∧ mkF L gs (22 + j) = (gs j).2.1 ∧ mkF L gs (26 + j) = (gs j).2.2 := by
  unfold mkF
  refine ⟨?_, ?_, ?_⟩
  · rw [if_neg (by omega), if_pos (by omega), show 18 + j - 18 = j by omega]
  · rw [if_neg (by omega), if_neg (by omega), if_pos (by omega), show 22 + j - 22 = j by omega]
  · rw [if_neg (by omega), if_neg (by omega), if_neg (by omega), show 26 + j - 26 = j by omega]
theorem isW_len {tp : Nat → Int} {n k : Nat} {t : TK} (h : isW tp k t = true) (hk : k < 6) (ht : TOK tp n t) : t.2.1 + 3 ≤ t.2.2.2 := by
  have h1 := isW_iff.mp h
  have h2 := congrArg List.length h1.2
  rw [txt_len] at h2
  have : ∀ k, k < 6 → 3 ≤ (wW k).length := by decide
  have := this k hk
  omega
section POKS
variable {tp : Nat → Int} {n ls q : Nat} {p p' : PS}
theorem pRest_ok (hT : TPOK tp) (hn : n ≤ 800) (hq : q + 3 ≤ p.1.2.1) (h : POK tp n p q) (hr : pRest tp n ls p = .inr p') : POK tp n p' (p'.1.2.1 + 1) ∧ q + 6 ≤ p'.1.2.1 := by
  have hpl := h.1.2.1
  obtain ⟨ho, hb, hb2⟩ := openB_ok h (by omega)
  have et := (openB_tok p).1
  unfold pRest at hr
  simp only at hr
  generalize openB p = o at *
  cases h1 : pFrac tp n 32 32 o.1 with
  | inl e => rw [h1] at hr; cases hr
  | inr r =>
    obtain ⟨l, t'⟩ := r
    have f := pFrac_ok hT hn ho.1 (by decide) h1
    rw [h1] at hr
    simp only at hr
    by_cases h2 : 48 ≤ o.2.2.2.1 ∨ o.2.1.2.2.2 < o.2.2.2.2.2.2.2 + l
    · rw [if_pos h2] at hr; cases hr
    rw [if_neg h2] at hr
    cases hr
    obtain ⟨k1, k2, k3⟩ := ho.2.1
    have hs := ho.2.2.2
    have hbe := hs.2.2.2.1
    refine ⟨⟨f.2.1, ho.2.1, ho.2.2.1, ?_⟩, by show q + 6 ≤ t'.2.1; rw [et] at f; omega⟩
    refine SOK.mono (p := q + 7) (addN_ok hs (by omega) hb (by omega) (by show o.2.2.2.2.2.2.2 + l ≤ o.2.1.2.2.2; omega) ?_ rfl rfl rfl rfl) (by show q + 7 ≤ t'.2.1 + 1; rw [et] at f; omega)
    refine ⟨Or.inl rfl, ?_, ?_, ?_, ?_, k1, k2, ?_, ?_, ?_, fun _ => ⟨rfl, rfl, rfl⟩, fun z => absurd z (by show ¬ (0 : Int) = 1; decide)⟩
    · show 0 ≤ o.2.2.2.2.2.2.2 ∧ o.2.2.2.2.2.2.2 ≤ 1000000; omega
    · show 16 ≤ l ∧ l ≤ 1000000 ∧ l % 16 = 0; omega
    · show 0 ≤ (o.2.2.2.2.2.1 : Int) - 1 ∧ (o.2.2.2.2.2.1 : Int) - 1 < 120; omega
    · show (0 : Int) ≤ 0 ∧ (0 : Int) ≤ 800; decide
    · show (0 : Int) ≤ 0 ∧ (0 : Int) ≤ 8; decide
    · show (0 : Int) ≤ 0 ∧ (0 : Int) ≤ 6; decide
    · show (0 : Int) ≤ 0 ∧ (0 : Int) ≤ 2; decide
theorem pTie_ok (hT : TPOK tp) (hn : n ≤ 800) (hq : q + 3 ≤ p.1.2.1) (h : POK tp n p q) (hr : pTie tp n ls p = .inr p') : POK tp n p' (p'.1.2.1 + 1) ∧ q + 6 ≤ p'.1.2.1 := by
  have hpl := h.1.2.1
  have h0 := h.2.2.2.2.1
  obtain ⟨ho, hb, hb2⟩ := openB_ok h (by omega)
  have et := openB_tok p
  unfold pTie at hr
  simp only at hr
  generalize openB p = o at *
  cases h1 : pFrac tp n 32 32 o.1 with
  | inl e => rw [h1] at hr; cases hr
  | inr r =>
    obtain ⟨l, t'⟩ := r
    have f := pFrac_ok hT hn ho.1 (by decide) h1
    rw [et.1] at f
    rw [h1] at hr
    simp only at hr
    by_cases h2 : ¬ (0 < o.2.2.2.1 ∧ o.2.2.2.2.1 (o.2.2.2.1 - 1) 0 = 1) ∨ o.2.1.2.2.2 < o.2.2.2.2.2.2.2 + l
    · rw [if_pos h2] at hr; cases hr
    rw [if_neg h2] at hr
    cases hr
    have hs := ho.2.2.2
    have hbe := hs.2.2.2.1
    have h3 : 0 < o.2.2.2.1 ∧ o.2.2.2.2.1 (o.2.2.2.1 - 1) 0 = 1 := by
      by_cases z : 0 < o.2.2.2.1 ∧ o.2.2.2.2.1 (o.2.2.2.1 - 1) 0 = 1
      · exact z
      · exact absurd (Or.inl z) h2
    have h7 : o.2.2.2.2.1 (o.2.2.2.1 - 1) 7 ≤ q := by
      rw [et.2.2.2.2.2.1, et.2.2.2.2.1]
      exact (h0 (p.2.2.2.1 - 1) (by rw [et.2.2.2.2.1] at h3; omega)).2.1
    refine ⟨⟨f.2.1, ho.2.1, ho.2.2.1, ?_⟩, by show q + 6 ≤ t'.2.1; omega⟩
    exact tie_ok hs h3.1 h3.2 ⟨f.1.1, f.1.2.2.1⟩ (by show o.2.2.2.2.2.2.2 + l ≤ o.2.1.2.2.2; omega) (by show o.2.1.2.2.2 ≤ 1000000; omega) (by show q + 7 ≤ t'.2.1 + 1; omega) (by show o.2.2.2.2.1 (o.2.2.2.1 - 1) 7 + 1 ≤ ((t'.2.1 + 1 : Nat) : Int); omega) (by omega)
theorem pPre_ok {key pf : Int} {told told' : Nat → Int} {gs : Nat → Int × Int × Int} {t t' : TK} (hT : TPOK tp) (hn : n ≤ 800) (ht : TOK tp n t) (htd : TDOK told) (h : pPre tp n key told t = .inr (pf, gs, told', t')) : (0 ≤ pf ∧ pf ≤ 6) ∧ (∀ j, j < ngc pf → okG (gs j)) ∧ TDOK told' ∧ TOK tp n t' ∧ t.2.1 ≤ t'.2.1 ∧ ngc pf ≤ 4 := by
  have o1 := nx_ok hT hn ht
  have hp := ht.2.1
  unfold pPre at h
  by_cases h1 : isW tp 8 t = true
  · rw [if_pos h1] at h
    cases h
    exact ⟨by decide, fun j hj => by simp [ngc] at hj, htd, o1.1, by omega, by decide⟩
  rw [if_neg h1] at h
  by_cases h2 : isW tp 6 t = true
  · rw [if_pos h2] at h
    cases h3 : pGrs tp n key 4 0 told g0 (nx tp n t) with
    | inl e => rw [h3] at h; cases h
    | inr r =>
      obtain ⟨k', gs', told1, t1⟩ := r
      rw [h3] at h
      cases h
      have ok := pGrs_ok (key := key) hT hn 4 0 told g0 (nx tp n t) rfl o1.1 htd (fun j hj => by omega) k' gs told' t' h3
      have en : ngc (k' : Int) = k' := by unfold ngc; rw [if_neg (by omega), if_neg (by omega)]; omega
      exact ⟨by omega, fun j hj => ok.2.1 j (by omega), ok.2.2.1, ok.2.2.2.1, by omega, by omega⟩
  rw [if_neg h2] at h
  by_cases h3 : isW tp 7 t = true
  · rw [if_pos h3] at h
    cases h4 : pPitch tp n key told (nx tp n t) with
    | inl e => rw [h4] at h; cases h
    | inr r =>
      obtain ⟨x, told1, t1⟩ := r
      rw [h4] at h
      cases h
      have ok := pPitch_ok hT hn o1.1 htd h4
      have g := pPitch_g hT hn o1.1 htd h4
      refine ⟨by decide, fun j hj => ?_, ok.2.2.1, ok.2.2.2.1, by omega, by decide⟩
      have ej : j = 0 := by simp [ngc] at hj; omega
      rw [ej, upq_s]; exact g
  · rw [if_neg h3] at h
    cases h
    exact ⟨by decide, fun j hj => by simp [ngc] at hj, htd, ht, by omega, by decide⟩
theorem pSgs_ok (hT : TPOK tp) (hn : n ≤ 800) : ∀ (f : Nat) (q : Int × Int × Bool) (t : TK), TOK tp n t → QOK q → ∀ q' t', pSgs tp n f q t = .inr (q', t') → QOK q' ∧ TOK tp n t' ∧ t.2.1 ≤ t'.2.1
  | 0, q, t, ht, hq, q', t', h => by unfold pSgs at h; cases h; exact ⟨hq, ht, Nat.le_refl _⟩
  | f + 1, q, t, ht, hq, q', t', h => by
    unfold pSgs at h
    have o1 := nx_ok hT hn ht
    have o2 := nx_ok hT hn o1.1
    have hp := ht.2.1
    have hp1 := o1.1.2.1
    have hs := sgn_rng (nx tp n t)
    by_cases h1 : isW tp 17 t = true ∨ isW tp 18 t = true
    · rw [if_pos h1] at h
      by_cases h2 : sgn (nx tp n t) = 2
      · rw [if_pos h2] at h; cases h
      rw [if_neg h2] at h
      have ih := pSgs_ok hT hn f _ (nx tp n (nx tp n t)) o2.1 (by
        split
        · exact ⟨hs, hq.2⟩
        · exact ⟨hq.1, hs⟩) q' t' h
      exact ⟨ih.1, ih.2.1, by omega⟩
    · rw [if_neg h1] at h; cases h; exact ⟨hq, ht, Nat.le_refl _⟩
theorem bodyF_rng (tp : Nat → Int) (t : TK) : ∀ f : Nat, f ≤ 8 → 0 ≤ bodyF tp t f ∧ bodyF tp t f ≤ 8
  | 0, _ => ⟨Int.le_refl 0, by show (0 : Int) ≤ 8; omega⟩
  | f + 1, hf => by
    unfold bodyF; split
    · omega
    · exact bodyF_rng tp t f (by omega)
theorem pBody_ok {bd : Int} {q : Int × Int × Bool} {t t' : TK} (hT : TPOK tp) (hn : n ≤ 800) (ht : TOK tp n t) (h : pBody tp n t = .inr (bd, q, t')) : (0 ≤ bd ∧ bd ≤ 8) ∧ QOK q ∧ TOK tp n t' ∧ t.2.1 ≤ t'.2.1 := by
  have o1 := nx_ok hT hn ht
  have hp := ht.2.1
  have hb := bodyF_rng tp t 8 (by decide)
  have q2 : QOK (2, 2, false) := ⟨by constructor <;> decide, by constructor <;> decide⟩
  unfold pBody at h
  by_cases h1 : bodyF tp t 8 = 0
  · rw [if_pos h1] at h; cases h; exact ⟨by decide, q2, ht, Nat.le_refl _⟩
  rw [if_neg h1] at h
  cases h2 : pSgs tp n n (2, 2, false) (nx tp n t) with
  | inl e => rw [h2] at h; cases h
  | inr r =>
    obtain ⟨q', t1⟩ := r
    rw [h2] at h
    cases h
    have ok := pSgs_ok hT hn n _ _ o1.1 q2 q t' h2
    exact ⟨hb, ok.1, ok.2.1, by omega⟩
theorem pBeh_ok {t : TK} (hT : TPOK tp) (hn : n ≤ 800) (ht : TOK tp n t) : (0 ≤ (pBeh tp n t).1 ∧ (pBeh tp n t).1 ≤ 2) ∧ TOK tp n (pBeh tp n t).2 ∧ t.2.1 ≤ (pBeh tp n t).2.2.1 := by
  have o1 := nx_ok hT hn ht
  have hp := ht.2.1
  unfold pBeh
  split
  · exact ⟨by show (0 : Int) ≤ 1 ∧ (1 : Int) ≤ 2; decide, o1.1, by show t.2.1 ≤ (nx tp n t).2.1; omega⟩
  split
  · exact ⟨by show (0 : Int) ≤ 2 ∧ (2 : Int) ≤ 2; decide, o1.1, by show t.2.1 ≤ (nx tp n t).2.1; omega⟩
  · exact ⟨by show (0 : Int) ≤ 0 ∧ (0 : Int) ≤ 2; decide, ht, Nat.le_refl _⟩
theorem tldN_rng {told : Nat → Int} (h : TDOK told) (s : Int) : sgOK (tldN told s) := by
  unfold tldN; split
  · exact h _ (by omega)
  · exact ⟨by decide, by decide⟩
theorem pNote_ok (hT : TPOK tp) (hn : n ≤ 800) (hq : q + 3 ≤ p.1.2.1) (h : POK tp n p q) (hr : pNote tp n ls p = .inr p') : POK tp n p' (p'.1.2.1 + 1) ∧ q + 6 ≤ p'.1.2.1 := by
  have hpl := h.1.2.1
  obtain ⟨ho, hb, hb2⟩ := openB_ok h (by omega)
  have et := (openB_tok p).1
  unfold pNote at hr
  simp only at hr
  generalize openB p = o at *
  obtain ⟨k1, k2, k3⟩ := ho.2.1
  cases h1 : pPitch tp n o.2.1.1 o.2.2.1 o.1 with
  | inl e => rw [h1] at hr; cases hr
  | inr r =>
  obtain ⟨x, told1, t1⟩ := r
  have a1 := pPitch_ok hT hn ho.1 ho.2.2.1 h1
  have g1 := pPitch_g hT hn ho.1 ho.2.2.1 h1
  rw [h1] at hr
  simp only at hr
  cases h2 : pFrac tp n 32 32 t1 with
  | inl e => rw [h2] at hr; cases hr
  | inr r =>
  obtain ⟨l, t2⟩ := r
  have a2 := pFrac_ok hT hn a1.2.2.2.1 (by decide) h2
  rw [h2] at hr
  simp only at hr
  cases h3 : pPre tp n o.2.1.1 told1 t2 with
  | inl e => rw [h3] at hr; cases hr
  | inr r =>
  obtain ⟨pf, gs, told2, t3⟩ := r
  have a3 := pPre_ok hT hn a2.2.1 a1.2.2.1 h3
  rw [h3] at hr
  simp only at hr
  cases h4 : pBody tp n t3 with
  | inl e => rw [h4] at hr; cases hr
  | inr r =>
  obtain ⟨bd, qq, t4⟩ := r
  have a4 := pBody_ok hT hn a3.2.2.2.1 h4
  have a5 := pBeh_ok hT hn a4.2.2.1
  rw [h4] at hr
  simp only at hr
  generalize pBeh tp n t4 = bh at *
  by_cases h5 : 48 ≤ o.2.2.2.1 ∨ o.2.1.2.2.2 < o.2.2.2.2.2.2.2 + l ∨ (bh.1 = 1 ∧ ¬ (bd = 1 ∨ bd = 8)) ∨ qq.2.2 = true
  · rw [if_pos h5] at hr; cases hr
  rw [if_neg h5] at hr
  cases hr
  have hs := ho.2.2.2
  have hbe := hs.2.2.2.1
  rw [et] at a1
  refine ⟨⟨a5.2.1, ho.2.1, a3.2.2.1, ?_⟩, by show q + 6 ≤ bh.2.2.1; omega⟩
  refine SOK.mono (p := q + 7) (addN_ok hs (by omega) hb (by omega) (by show o.2.2.2.2.2.2.2 + l ≤ o.2.1.2.2.2; omega) ?_ rfl rfl rfl rfl) (by show q + 7 ≤ bh.2.2.1 + 1; omega)
  refine ⟨Or.inr rfl, ?_, ?_, ?_, ?_, k1, k2, a4.1, a3.1, a5.1, fun z => absurd z (by show ¬ (1 : Int) = 0; decide), fun _ => ⟨g1, ⟨a4.2.1.1, a4.2.1.2, tldN_rng a1.2.2.1 _, tldN_rng a1.2.2.1 _, tldN_rng a1.2.2.1 _⟩, fun j hj => ?_⟩⟩
  · show 0 ≤ o.2.2.2.2.2.2.2 ∧ o.2.2.2.2.2.2.2 ≤ 1000000; omega
  · show 16 ≤ l ∧ l ≤ 1000000 ∧ l % 16 = 0; omega
  · show 0 ≤ (o.2.2.2.2.2.1 : Int) - 1 ∧ (o.2.2.2.2.2.1 : Int) - 1 < 120; omega
  · show (0 : Int) ≤ 0 ∧ (0 : Int) ≤ 800; decide
  · have hj : j < ngc pf := hj
    have m1 := mkF_g (L := [1, x.1, x.2.1, x.2.2, o.2.2.2.2.2.2.2, l, (o.2.2.2.2.2.1 : Int) - 1, 0, o.2.1.1, o.2.1.2.1, bd, pf, bh.1, qq.1, qq.2.1, tldN told1 (7 * x.2.1 + x.1 + 1), tldN told1 (7 * x.2.1 + x.1 - 1), tldN told1 (7 * x.2.1 + x.1 - 2)]) (gs := gs) (j := j) (by omega)
    rw [m1.1, m1.2.1, m1.2.2]
    exact a3.2.1 j hj
end POKS
