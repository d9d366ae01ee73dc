/-! THE CLASS's reader: a line -/
section CTEXT
variable {m : Mem} {K : Option SV → Mem → Prop} {tp : Nat → Int} {n sn ls : Nat} {p : PS}
theorem pKey_ok {q : Nat} {p' : PS} (hT : TPOK tp) (hn : n ≤ 800) (hq : q ≤ p.1.2.1) (h : POK tp n p q) (hr : pKey tp n p = .inr p') : POK tp n p' (p'.1.2.1 + 1) ∧ q + 1 ≤ p'.1.2.1 := by
  unfold pKey at hr
  have o1 := nx_ok hT hn h.1
  have op := h.1.2.1
  have hta : TOK tp n (if p.1.1 = 3 ∧ p.1.2.2.1 = 45 then nx tp n p.1 else p.1) ∧ p.1.2.1 ≤ (if p.1.1 = 3 ∧ p.1.2.2.1 = 45 then nx tp n p.1 else p.1).2.1 := by
    split
    · exact ⟨o1.1, by omega⟩
    · exact ⟨h.1, Nat.le_refl _⟩
  generalize (if p.1.1 = 3 ∧ p.1.2.2.1 = 45 then nx tp n p.1 else p.1) = ta at hr hta
  cases h1 : pNum tp n 0 7 ta with
  | inl e => rw [h1] at hr; cases hr
  | inr r =>
    obtain ⟨v, tb⟩ := r
    have o2 := pNum_ok hT hn hta.1 h1
    rw [h1] at hr
    simp only at hr
    cases hr
    refine ⟨⟨o2.2.1, ⟨?_, h.2.1.2.1, h.2.1.2.2⟩, h.2.2.1, SOK.mono (p := q) h.2.2.2 (by show q ≤ tb.2.1 + 1; omega)⟩, by show q + 1 ≤ tb.2.1; omega⟩
    show -7 ≤ (if p.1.1 = 3 ∧ p.1.2.2.1 = 45 then -v else v) ∧ (if p.1.1 = 3 ∧ p.1.2.2.1 = 45 then -v else v) ≤ 7
    split <;> omega
theorem pMeter_ok {q : Nat} {p' : PS} (hT : TPOK tp) (hn : n ≤ 800) (hq : q ≤ p.1.2.1) (h : POK tp n p q) (hr : pMeter tp n ls p = .inr p') : POK tp n p' (p'.1.2.1 + 1) ∧ q + 1 ≤ p'.1.2.1 := by
  unfold pMeter at hr
  cases h1 : pFrac tp n 16 16 p.1 with
  | inl e => rw [h1] at hr; cases hr
  | inr r =>
    obtain ⟨l, tb⟩ := r
    have o2 := pFrac_ok hT hn h.1 (by decide) h1
    rw [h1] at hr
    simp only at hr
    by_cases h2 : ¬ p.2.2.2.2.2.2.2 = p.2.1.2.2.2
    · rw [if_pos h2] at hr; cases hr
    rw [if_neg h2] at hr
    cases hr
    exact ⟨⟨o2.2.1, ⟨h.2.1.1, h.2.1.2.1, o2.1.1, o2.1.2.2.2 (by decide)⟩, h.2.2.1, SOK.mono (p := q) h.2.2.2 (by show q ≤ tb.2.1 + 1; omega)⟩, by show q + 1 ≤ tb.2.1; omega⟩
theorem pSpeed_ok {q : Nat} {p' : PS} (hT : TPOK tp) (hn : n ≤ 800) (hq : q ≤ p.1.2.1) (h : POK tp n p q) (hr : pSpeed tp n p = .inr p') : POK tp n p' (p'.1.2.1 + 1) ∧ q + 1 ≤ p'.1.2.1 := by
  unfold pSpeed at hr
  cases h1 : pNum tp n 20 400 p.1 with
  | inl e => rw [h1] at hr; cases hr
  | inr r =>
    obtain ⟨v, tb⟩ := r
    have o2 := pNum_ok hT hn h.1 h1
    rw [h1] at hr
    simp only at hr
    cases hr
    exact ⟨⟨o2.2.1, ⟨h.2.1.1, o2.1, h.2.1.2.2⟩, h.2.2.1, SOK.mono (p := q) h.2.2.2 (by show q ≤ tb.2.1 + 1; omega)⟩, by show q + 1 ≤ tb.2.1; omega⟩
theorem pBodyL_ok {p' : PS} (hT : TPOK tp) (hn : n ≤ 800) (h : POK tp n p p.1.2.1) (hr : pBodyL tp n p = .inr p') : POK tp n p' (p'.1.2.1 + 1) ∧ p.1.2.1 + 1 ≤ p'.1.2.1 := by
  have o1 := nx_ok hT hn h.1
  have op := h.1.2.1
  have hP : POK tp n (nx tp n p.1, p.2) p.1.2.1 := ⟨o1.1, h.2⟩
  unfold pBodyL at hr
  simp only at hr
  by_cases w4 : isW tp 4 p.1 = true
  · rw [if_pos w4] at hr
    have hl := isW_len w4 (by decide) h.1
    have := pNote_ok (q := p.1.2.1) hT hn (by show p.1.2.1 + 3 ≤ (nx tp n p.1).2.1; omega) hP hr
    exact ⟨this.1, by omega⟩
  rw [if_neg w4] at hr
  by_cases w3 : isW tp 3 p.1 = true
  · rw [if_pos w3] at hr
    have hl := isW_len w3 (by decide) h.1
    have := pRest_ok (q := p.1.2.1) hT hn (by show p.1.2.1 + 3 ≤ (nx tp n p.1).2.1; omega) hP hr
    exact ⟨this.1, by omega⟩
  rw [if_neg w3] at hr
  by_cases w5 : isW tp 5 p.1 = true
  · rw [if_pos w5] at hr
    have hl := isW_len w5 (by decide) h.1
    have := pTie_ok (q := p.1.2.1) hT hn (by show p.1.2.1 + 3 ≤ (nx tp n p.1).2.1; omega) hP hr
    exact ⟨this.1, by omega⟩
  rw [if_neg w5] at hr
  by_cases w0 : isW tp 0 p.1 = true
  · rw [if_pos w0] at hr
    exact pKey_ok (q := p.1.2.1) hT hn (by show p.1.2.1 ≤ (nx tp n p.1).2.1; omega) hP hr
  rw [if_neg w0] at hr
  by_cases w1 : isW tp 1 p.1 = true
  · rw [if_pos w1] at hr
    exact pMeter_ok (q := p.1.2.1) hT hn (by show p.1.2.1 ≤ (nx tp n p.1).2.1; omega) hP hr
  rw [if_neg w1] at hr
  by_cases w2 : isW tp 2 p.1 = true
  · rw [if_pos w2] at hr
    exact pSpeed_ok (q := p.1.2.1) hT hn (by show p.1.2.1 ≤ (nx tp n p.1).2.1; omega) hP hr
  · rw [if_neg w2] at hr; cases hr
theorem pLine_ok {p' : PS} (hT : TPOK tp) (hn : n ≤ 800) (h : POK tp n p p.1.2.1) (hr : pLine tp n p = .inr p') : POK tp n p' p'.1.2.1 ∧ p.1.2.1 + 1 ≤ p'.1.2.1 := by
  unfold pLine at hr
  cases h1 : pBodyL tp n p with
  | inl e => rw [h1] at hr; cases hr
  | inr pa =>
    have o1 := pBodyL_ok hT hn h h1
    rw [h1] at hr
    simp only at hr
    by_cases h2 : pa.1.1 = 3 ∧ pa.1.2.2.1 = 59
    · rw [if_pos h2] at hr
      cases hr
      have o2 := nx_ok hT hn o1.1.1
      have o3 := o1.1.1.2.2.2.1 (by omega)
      exact ⟨⟨o2.1, o1.1.2.1, o1.1.2.2.1, SOK.mono o1.1.2.2.2 (by show pa.1.2.1 + 1 ≤ (nx tp n pa.1).2.1; omega)⟩, by show p.1.2.1 + 1 ≤ (nx tp n pa.1).2.1; omega⟩
    · rw [if_neg h2] at hr; cases hr
theorem AT_AD {t n k : Nat} (h : AT t n k) : AD sn t n k := AR_AD (AT_AR h)
theorem c_readLine (hT : TPOK tp) (hn : n ≤ 800) (hP : POK tp n p p.1.2.1) (hC : CS m tp n sn p)
    (hF : ∀ m' e, pBodyL tp n p = .inl e → FTd m' e → Fr (AD sn) m m' → K (some (vI 0)) m') (hS : ∀ m' p', pBodyL tp n p = .inr p' → CS m' tp n sn p' → Fr (AD sn) m m' → K (some (vI 1)) m') : smC true 13 [vR (some (1, 1))] m K := by
  have o1 := nx_ok hT hn hP.1
  have op := hP.1.2.1
  have hP1 : POK tp n (nx tp n p.1, p.2) p.1.2.1 := ⟨o1.1, hP.2⟩
  refine smC_wp [some (vR (some (1, 1)))] cd_13 [8] 60 OK_13 (by decide) rfl rfl (Nat.le_of_ble_eq_true rfl) ?_
  refine And.intro trivial ?_
  rw [hC.1.2.2.1]
  have FZ : Fr (fun t n k => t = 1 ∧ n = 1 ∧ k = 7) m (sI m 1 1 7 (iZ p.1.2.1)) := Fr.st ⟨rfl, rfl, rfl⟩
  have F0 : Fr (AD sn) m (sI m 1 1 7 (iZ p.1.2.1)) := Fr.st (Or.inl ⟨rfl, rfl, by omega⟩)
  have C0 : CS (sI m 1 1 7 (iZ p.1.2.1)) tp n sn p := by
    obtain ⟨cR, cK, cT, cS, c9⟩ := hC
    exact ⟨cR.fr FZ (fun n k => by omega) (fun k hk => by omega), cK.fr FZ (fun j hj => by omega), fun hz k hk => (FZ.2 _ _ _ (by omega)).trans (cT hz k hk), cS.frd FZ (fun k => by omega) (fun k => by omega) (fun i k _ => by omega) (fun i k _ => by omega), (Fr_gP FZ _ _ _).trans c9⟩
  have e7 : gI (sI m 1 1 7 (iZ p.1.2.1)) 1 1 7 = iZ p.1.2.1 := by rw [gI_s, if_pos ⟨rfl, rfl, rfl⟩]
  generalize sI m 1 1 7 (iZ p.1.2.1) = m0 at *
  have cs1 : ∀ {ma : Mem}, RS ma tp n (nx tp n p.1) → Fr AT m0 ma → CS ma tp n sn (nx tp n p.1, p.2) := fun R F => C0.rd (F.mono (fun t n k z => AT_AR z)) R
  have e71 : ∀ {ma : Mem}, Fr AT m0 ma → gI ma 1 1 7 = iZ p.1.2.1 := fun F => (F.2 _ _ _ (by unfold AT; omega)).trans e7
  unfold pBodyL at hF hS
  simp only at hF hS
  refine wp1_ok (by decide) OK_13 (cc := cd_13) rfl (stops := []) (f := 90) ?_
  refine And.intro trivial (c_takeWord (c := 0) (by decide) (by decide) (by decide) hT hn hP.1 C0.1 (fun ma w R F => ?_) (fun w => ?_))
  · have w : isW tp 4 p.1 = true := w
    rw [if_pos w] at hF hS
    have hl := isW_len w (by decide) hP.1
    refine And.intro (fun z => absurd z (by decide)) (fun _ => ?_)
    refine And.intro trivial (c_readNote (q := p.1.2.1) (ls := p.1.2.1) hT hn (by show p.1.2.1 + 3 ≤ (nx tp n p.1).2.1; omega) hP1 (cs1 R F) (e71 F) (fun mb e he hf Fb => ?_) (fun mb pb he hc Fb => ?_))
    · exact And.intro (Or.inl rfl) (hF mb e he hf ((F0.tr (F.mono (fun t n k z => AT_AD z))).tr Fb))
    · exact And.intro (Or.inr rfl) (hS mb pb he hc ((F0.tr (F.mono (fun t n k z => AT_AD z))).tr Fb))
  have w : ¬ isW tp 4 p.1 = true := w
  rw [if_neg w] at hF hS
  refine And.intro (fun _ => ?_) (fun z => absurd rfl z)
  refine And.intro trivial (c_takeWord (c := 1) (by decide) (by decide) (by decide) hT hn hP.1 C0.1 (fun ma w R F => ?_) (fun w => ?_))
  · have w : isW tp 3 p.1 = true := w
    rw [if_pos w] at hF hS
    have hl := isW_len w (by decide) hP.1
    refine And.intro (fun z => absurd z (by decide)) (fun _ => ?_)
    refine And.intro trivial (c_readRest (q := p.1.2.1) (ls := p.1.2.1) hT hn (by show p.1.2.1 + 3 ≤ (nx tp n p.1).2.1; omega) hP1 (cs1 R F) (e71 F) (fun mb e he hf Fb => ?_) (fun mb pb he hc Fb => ?_))
    · exact And.intro (Or.inl rfl) (hF mb e he hf ((F0.tr (F.mono (fun t n k z => AT_AD z))).tr Fb))
    · exact And.intro (Or.inr rfl) (hS mb pb he hc ((F0.tr (F.mono (fun t n k z => AT_AD z))).tr Fb))
  have w : ¬ isW tp 3 p.1 = true := w
  rw [if_neg w] at hF hS
  refine And.intro (fun _ => ?_) (fun z => absurd rfl z)
  refine And.intro trivial (c_takeWord (c := 2) (by decide) (by decide) (by decide) hT hn hP.1 C0.1 (fun ma w R F => ?_) (fun w => ?_))
  · have w : isW tp 5 p.1 = true := w
    rw [if_pos w] at hF hS
    have hl := isW_len w (by decide) hP.1
    refine And.intro (fun z => absurd z (by decide)) (fun _ => ?_)
    refine And.intro trivial (c_readTie (q := p.1.2.1) (ls := p.1.2.1) hT hn (by show p.1.2.1 + 3 ≤ (nx tp n p.1).2.1; omega) hP1 (cs1 R F) (e71 F) (fun mb e he hf Fb => ?_) (fun mb pb he hc Fb => ?_))
    · exact And.intro (Or.inl rfl) (hF mb e he hf ((F0.tr (F.mono (fun t n k z => AT_AD z))).tr Fb))
    · exact And.intro (Or.inr rfl) (hS mb pb he hc ((F0.tr (F.mono (fun t n k z => AT_AD z))).tr Fb))
  have w : ¬ isW tp 5 p.1 = true := w
  rw [if_neg w] at hF hS
  refine And.intro (fun _ => ?_) (fun z => absurd rfl z)
  refine And.intro trivial (c_takeWord (c := 3) (by decide) (by decide) (by decide) hT hn hP.1 C0.1 (fun ma w R F => ?_) (fun w => ?_))
  · have w : isW tp 0 p.1 = true := w
    rw [if_pos w] at hF hS
    refine And.intro (fun z => absurd z (by decide)) (fun _ => ?_)
    refine And.intro trivial (c_readKey (q := p.1.2.1) hT hn hP1 (cs1 R F) (fun mb e he hf Fb => ?_) (fun mb pb he hc Fb => ?_))
    · exact And.intro (Or.inl rfl) (hF mb e he hf ((F0.tr (F.mono (fun t n k z => AT_AD z))).tr Fb))
    · exact And.intro (Or.inr rfl) (hS mb pb he hc ((F0.tr (F.mono (fun t n k z => AT_AD z))).tr Fb))
  have w : ¬ isW tp 0 p.1 = true := w
  rw [if_neg w] at hF hS
  refine And.intro (fun _ => ?_) (fun z => absurd rfl z)
  refine And.intro trivial (c_takeWord (c := 4) (by decide) (by decide) (by decide) hT hn hP.1 C0.1 (fun ma w R F => ?_) (fun w => ?_))
  · have w : isW tp 1 p.1 = true := w
    rw [if_pos w] at hF hS
    refine And.intro (fun z => absurd z (by decide)) (fun _ => ?_)
    refine And.intro trivial (c_readMeter (q := p.1.2.1) (ls := p.1.2.1) hT hn hP1 (by omega) (cs1 R F) (e71 F) (fun mb e he hf Fb => ?_) (fun mb pb he hc Fb => ?_))
    · exact And.intro (Or.inl rfl) (hF mb e he hf ((F0.tr (F.mono (fun t n k z => AT_AD z))).tr Fb))
    · exact And.intro (Or.inr rfl) (hS mb pb he hc ((F0.tr (F.mono (fun t n k z => AT_AD z))).tr Fb))
  have w : ¬ isW tp 1 p.1 = true := w
  rw [if_neg w] at hF hS
  refine And.intro (fun _ => ?_) (fun z => absurd rfl z)
  refine And.intro trivial (c_takeWord (c := 5) (by decide) (by decide) (by decide) hT hn hP.1 C0.1 (fun ma w R F => ?_) (fun w => ?_))
  · have w : isW tp 2 p.1 = true := w
    rw [if_pos w] at hF hS
    refine And.intro (fun z => absurd z (by decide)) (fun _ => ?_)
    refine And.intro trivial (c_readSpeed (q := p.1.2.1) hT hn hP1 (cs1 R F) (fun mb e he hf Fb => ?_) (fun mb pb he hc Fb => ?_))
    · exact And.intro (Or.inl rfl) (hF mb e he hf ((F0.tr (F.mono (fun t n k z => AT_AD z))).tr Fb))
    · exact And.intro (Or.inr rfl) (hS mb pb he hc ((F0.tr (F.mono (fun t n k z => AT_AD z))).tr Fb))
  have w : ¬ isW tp 2 p.1 = true := w
  rw [if_neg w] at hF
  refine And.intro (fun _ => ?_) (fun z => absurd rfl z)
  refine And.intro trivial (c_fail (a := 1) (p := p.1.2.1) rfl C0.1.2.2.1 (fun mb f1 f2 Fb => ?_))
  exact And.intro (Or.inl rfl) (hF mb _ rfl ⟨f1, f2⟩ (F0.tr (Fb.mono (fun t n k z => AR_AD (AF_AR z)))))
end CTEXT
