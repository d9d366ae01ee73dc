/-! fastest, bears: the Model -/
section OPSA
variable {m m' : Mem} {K : Option SV → Mem → Prop} {tp : Nat → Int} {td : Nat} {fl : Int × Int} {tm : Nat → Int} {D : Dt} {a sa sb j : Nat} {st : Bool} {f f' : NF} {i : Int}
def bI (b : Bool) : Int32 := match b with
  | true => 1
  | false => 0
theorem up5_same : upq tm 5 (tm 5) = tm := by
  funext k
  by_cases e : k = 5
  · subst e; rw [upq_s]
  · rw [upq_n e]
theorem vp5 : vp_in (5 : Int32) 7 := by rw [L5, iZ_in (by decide)]; decide
theorem M_whole {x : Int32} (hx : x = iZ i) (ri : i = -1 ∨ (0 ≤ i ∧ i < D.1)) (hS : SI tp td tm D) (h : MI m tp td fl tm D)
    (hk : ∀ m', MI m' tp td fl tm D → Fr AMa m m' → K (some (vI (iZ (qWl tm D i)))) m') : smC true 235 [vR (some (23, 231)), vI x] m K := by
  subst hx
  have h48 := hS.dok.1
  have ri' : R32 i := by rcases ri with e | e <;> constructor <;> omega
  unfold qWl at hk
  have e5 : gI m 24 232 (5 : Int32).toNatClampNeg = iZ (tm 5) := h.2.1 5 (by decide)
  -- the end
  have fin : ∀ (m1 : Mem) (q best p : Int) (x5 x6 : Option SV), MI m1 tp td fl (upq tm 5 q) D → Fr AMa m m1 → best = fsB (fun p => atW tm p D i D.1) 376 → smE true 235 117 [some (vR (some (23, 231))), some (vI (iZ i)), some (vI (iZ (tm 5))), some (vI (iZ best)), some (vI (iZ p)), x5, x6] [] m1 K := by
    intro m1 q best p x5 x6 h1 F1 eb
    refine wp_ok (by decide) OK_235 (cc := cd_235) rfl (stops := []) 30 _ _ _ _ ?_
    refine And.intro vp5 ?_
    refine And.intro trivial ?_
    obtain ⟨h2, F2⟩ := h1.t5 (p := tm 5) rfl
    rw [up5_twice, up5_same] at h2
    have := hk _ h2 (F1.tr F2)
    rw [← eb] at this
    exact this
  -- one pass over the verdicts
  have pass : ∀ (m1 : Mem) (p : Int), MD m1 D → MVd m1 tm p D →
      (∀ b : Bool, b = atW tm p D i D.1 → smE true 235 99 [some (vR (some (23, 231))), some (vI (iZ i)), some (vI (iZ (tm 5))), some (vI (iZ (-1))), some (vI (iZ p)), some (vI (bI b)), some (vI (iZ ((3 * D.1 : Nat) : Int)))] [] m1 K) →
      smE true 235 44 [some (vR (some (23, 231))), some (vI (iZ i)), some (vI (iZ (tm 5))), some (vI (iZ (-1))), some (vI (iZ p)), some (vI (bI true)), some (vI (iZ ((3 * 0 : Nat) : Int)))] [] m1 K := by
    intro m1 p hM hV hE
    have g0 : gI m1 29 237 (0 : Int32).toNatClampNeg = iZ D.1 := hM.1.1
    have e3 : (3 : Int32) * iZ (D.1 : Int) = iZ ((3 * D.1 : Nat) : Int) := by rw [L3, iZ_mul]; congr 1
    have step : ∀ (b : Bool) (q : Int) (n k : Nat), n < D.1 → 3 * n ≤ k ∧ k < 3 * n + 3 → gI m1 43 251 k = iZ q → (0 ≤ q ∧ q ≤ 3) →
        smE true 235 44 [some (vR (some (23, 231))), some (vI (iZ i)), some (vI (iZ (tm 5))), some (vI (iZ (-1))), some (vI (iZ p)), some (vI (bI (b && (if i = -1 ∨ i = (n : Int) then decide (q ≤ 1) else true)))), some (vI (iZ ((k + 1 : Nat) : Int)))] [] m1 K →
        smE true 235 44 [some (vR (some (23, 231))), some (vI (iZ i)), some (vI (iZ (tm 5))), some (vI (iZ (-1))), some (vI (iZ p)), some (vI (bI b)), some (vI (iZ (k : Int)))] [] m1 K := by
      intro b q n k hn hk' hq rq hN
      have ec : (iZ (k : Int)).toNatClampNeg = k := by rw [iZ_clamp (by constructor <;> omega)]; omega
      have e93 : ∀ c : Bool, c = (b && (if i = -1 ∨ i = (n : Int) then decide (q ≤ 1) else true)) → smE true 235 93 [some (vR (some (23, 231))), some (vI (iZ i)), some (vI (iZ (tm 5))), some (vI (iZ (-1))), some (vI (iZ p)), some (vI (bI c)), some (vI (iZ (k : Int)))] [] m1 K := by
        intro c hc
        subst hc
        refine wp_ok (by decide) OK_235 (cc := cd_235) rfl (stops := [44]) 30 _ _ _ _ ?_
        refine And.intro trivial ?_
        rw [L1, iZ_add]
        exact hN
      have e70 : (i = -1 ∨ i = (n : Int)) → smE true 235 70 [some (vR (some (23, 231))), some (vI (iZ i)), some (vI (iZ (tm 5))), some (vI (iZ (-1))), some (vI (iZ p)), some (vI (bI b)), some (vI (iZ (k : Int)))] [] m1 K := by
        intro hi
        cases b with
        | false =>
          refine wp_ok (by decide) OK_235 (cc := cd_235) rfl (stops := [93]) 30 _ _ _ _ ?_
          refine And.intro (fun _ => ?_) (fun z => absurd rfl z)
          exact And.intro trivial (e93 false rfl)
        | true =>
          refine wp_ok (by decide) OK_235 (cc := cd_235) rfl (stops := [93]) 30 _ _ _ _ ?_
          refine And.intro (fun z => absurd z (by decide)) (fun _ => ?_)
          refine And.intro ((iZ_in (by constructor <;> omega)).mpr (by omega)) ?_
          rw [ec, hq]
          refine And.intro (fun y => ?_) (fun y => ?_)
          · rw [L2, iZ_le (by decide) (by constructor <;> omega)] at y
            exact And.intro trivial (e93 false (by rw [if_pos hi, decide_eq_false (by omega)]; rfl))
          · rw [L2, iZ_le (by decide) (by constructor <;> omega)] at y
            exact And.intro trivial (e93 true (by rw [if_pos hi, decide_eq_true (by omega)]; rfl))
      refine wp1_ok (by decide) OK_235 (cc := cd_235) rfl (stops := [70, 93]) (f := 40) ?_
      refine And.intro (by rw [L0, iZ_in (by decide)]; decide) ?_
      rw [g0]
      refine And.intro (fun z => ?_) (fun _ => ?_)
      · rw [e3, iZ_le (by constructor <;> omega) (by constructor <;> omega)] at z; omega
      refine And.intro (fun y => ?_) (fun y => ?_)
      · rw [LM1, iZ_eq ri' (by decide)] at y
        exact And.intro trivial (e70 (Or.inl y))
      rw [LM1, iZ_eq ri' (by decide)] at y
      refine And.intro (by decide) ?_
      have ed : iZ (k : Int) / 3 = iZ (n : Int) := by
        rw [L3, iZ_div (by constructor <;> omega) (by decide) (by omega) (by decide)]
        congr 1
        omega
      rw [ed]
      refine And.intro (fun u => ?_) (fun u => ?_)
      · rw [iZ_eq (by constructor <;> omega) ri'] at u
        exact And.intro trivial (e93 b (by rw [if_neg (by omega), Bool.and_true]))
      · rw [iZ_eq (by constructor <;> omega) ri'] at u
        exact And.intro trivial (e70 (Or.inr u.symm))
    have loop : ∀ s n, n + s = D.1 → smE true 235 44 [some (vR (some (23, 231))), some (vI (iZ i)), some (vI (iZ (tm 5))), some (vI (iZ (-1))), some (vI (iZ p)), some (vI (bI (atW tm p D i n))), some (vI (iZ ((3 * n : Nat) : Int)))] [] m1 K := by
      intro s
      induction s with
      | zero =>
        intro n en
        have : n = D.1 := by omega
        subst this
        refine wp1_ok (by decide) OK_235 (cc := cd_235) rfl (stops := [99]) (f := 40) ?_
        refine And.intro (by rw [L0, iZ_in (by decide)]; decide) ?_
        rw [g0]
        refine And.intro (fun _ => And.intro trivial (hE _ rfl)) (fun z => ?_)
        rw [e3, iZ_le (by constructor <;> omega) (by constructor <;> omega)] at z; omega
      | succ s ih =>
        intro n en
        obtain ⟨⟨u1, u2, u3⟩, r1, r2, r3⟩ := hV n (by omega)
        refine step _ _ n (3 * n) (by omega) (by omega) u1 r1 ?_
        refine step _ _ n (3 * n + 1) (by omega) (by omega) u2 r2 ?_
        refine step _ _ n (3 * n + 2) (by omega) (by omega) u3 r3 ?_
        have := ih (n + 1) (by omega)
        have eb : (((atW tm p D i n && (if i = -1 ∨ i = (n : Int) then decide ((wq tm p D n).2.1.1 ≤ 1) else true)) && (if i = -1 ∨ i = (n : Int) then decide ((wq tm p D n).2.1.2.1 ≤ 1) else true)) && (if i = -1 ∨ i = (n : Int) then decide ((wq tm p D n).2.1.2.2 ≤ 1) else true)) = atW tm p D i (n + 1) := by
          have eA : atW tm p D i (n + 1) = (atW tm p D i n && (if i = -1 ∨ i = (n : Int) then decide (atN3 (wq tm p D n).2.1) else true)) := rfl
          rw [eA]
          generalize atW tm p D i n = b
          generalize (wq tm p D n).2.1 = v
          by_cases e : i = -1 ∨ i = (n : Int)
          · rw [if_pos e, if_pos e, if_pos e, if_pos e, Bool.and_assoc, Bool.and_assoc]
            congr 1
            rw [Bool.eq_iff_iff]
            simp [atN3]
          · rw [if_neg e, if_neg e, if_neg e, if_neg e, Bool.and_true, Bool.and_true, Bool.and_true]
        rw [← eb] at this
        exact this
    exact loop D.1 0 (by omega)
  have loop : ∀ s, s ≤ 376 → ∀ (m1 : Mem) (q : Int) (x5 x6 : Option SV), (x5 = none ∧ x6 = none ∨ ∃ y5 y6, x5 = some (vI y5) ∧ x6 = some (vI y6)) → MI m1 tp td fl (upq tm 5 q) D → Fr AMa m m1 → fsB (fun p => atW tm p D i D.1) 376 = fsB (fun p => atW tm p D i D.1) s → smE true 235 14 [some (vR (some (23, 231))), some (vI (iZ i)), some (vI (iZ (tm 5))), some (vI (iZ (-1))), some (vI (iZ (24 + (s : Int)))), x5, x6] [] m1 K := by
    intro s
    induction s with
    | zero =>
      intro hs m1 q x5 x6 hx h1 F1 e
      refine wp1_ok (by decide) OK_235 (cc := cd_235) rfl (stops := [117]) (f := 40) ?_
      refine And.intro (fun _ => ?_) (fun u => ?_)
      · exact And.intro trivial (fin m1 q (-1) _ x5 x6 h1 F1 e.symm)
      · exact absurd (by decide) u
    | succ s ih =>
      intro hs m1 q x5 x6 hx h1 F1 e
      have hp : 25 ≤ (25 + (s : Int)) ∧ (25 + (s : Int)) ≤ 400 := by omega
      rw [show (24 + ((s + 1 : Nat) : Int)) = 25 + (s : Int) by omega]
      have rp : R32 (25 + (s : Int)) := by constructor <;> omega
      obtain ⟨h2, F2⟩ := h1.t5 (p := 25 + (s : Int)) rfl
      rw [up5_twice] at h2
      have e26 : smE true 235 26 [some (vR (some (23, 231))), some (vI (iZ i)), some (vI (iZ (tm 5))), some (vI (iZ (-1))), some (vI (iZ (25 + (s : Int)))), x5, x6] [] m1 K := by
        have hw : smE true 235 34 [some (vR (some (23, 231))), some (vI (iZ i)), some (vI (iZ (tm 5))), some (vI (iZ (-1))), some (vI (iZ (25 + (s : Int)))), x5, x6] [] (sI m1 24 232 5 (iZ (25 + (s : Int)))) K := by
          generalize sI m1 24 232 5 (iZ (25 + (s : Int))) = m2 at *
          have at38 : ∀ m3, MI m3 tp td fl (upq tm 5 (25 + (s : Int))) D → MSR m3 (upq tm 5 (25 + (s : Int))) ((upq tm 5 (25 + (s : Int))) 5) D D.1 → Fr AMq m2 m3 → smE true 235 44 [some (vR (some (23, 231))), some (vI (iZ i)), some (vI (iZ (tm 5))), some (vI (iZ (-1))), some (vI (iZ (25 + (s : Int)))), some (vI (bI true)), some (vI (iZ ((3 * 0 : Nat) : Int)))] [] m3 K := by
            intro m3 h3 R3 F3
            rw [upq_s] at R3
            have V3 : MVd m3 tm (25 + (s : Int)) D := (R3.vd (hS.t5s hp).2.2.1 hS.dok (by omega)).t5
            refine pass m3 _ h3.2.2.1 V3 (fun b hb => ?_)
            have F4 : Fr AMa m m3 := (F1.tr F2).tr F3.qa
            cases b with
            | true =>
              refine wp_ok (by decide) OK_235 (cc := cd_235) rfl (stops := [117]) 40 _ _ _ _ ?_
              refine And.intro (fun z => absurd z (by decide)) (fun _ => ?_)
              have e := e.trans (show fsB (fun p => atW tm p D i D.1) (s + 1) = 25 + (s : Int) by rw [fsB, if_pos hb.symm])
              refine And.intro (fun _ => ?_) (fun u => ?_)
              · refine And.intro trivial ?_
                rw [LM1, iZ_add]
                exact fin m3 _ _ _ _ _ h3 F4 e.symm
              · refine And.intro (fun _ => ?_) (fun w => ?_)
                · refine And.intro trivial ?_
                  rw [LM1, iZ_add]
                  exact fin m3 _ _ _ _ _ h3 F4 e.symm
                · rw [LM1, iZ_eq rp (by decide)] at w
                  omega
            | false =>
              refine wp_ok (by decide) OK_235 (cc := cd_235) rfl (stops := [14]) 40 _ _ _ _ ?_
              refine And.intro (fun _ => ?_) (fun z => absurd rfl z)
              have e := e.trans (show fsB (fun p => atW tm p D i D.1) (s + 1) = fsB (fun p => atW tm p D i D.1) s by rw [fsB, if_neg (by rw [← hb]; decide)])
              refine And.intro trivial ?_
              rw [LM1, iZ_add, show (25 + (s : Int) + -1) = 24 + (s : Int) by omega]
              exact ih (by omega) m3 _ _ _ (Or.inr ⟨_, _, rfl, rfl⟩) h3 F4 e
          refine wp_ok (by decide) OK_235 (cc := cd_235) rfl (stops := [44]) 40 _ _ _ _ ?_
          rcases hx with ⟨rfl, rfl⟩ | ⟨y5, y6, rfl, rfl⟩
          · refine And.intro trivial (MI.writes (hS.t5s hp) h2 (fun m3 h3 R3 F3 => ?_))
            exact And.intro trivial (at38 m3 h3 R3 F3)
          · refine And.intro trivial (MI.writes (hS.t5s hp) h2 (fun m3 h3 R3 F3 => ?_))
            exact And.intro trivial (at38 m3 h3 R3 F3)
        refine wp_ok (by decide) OK_235 (cc := cd_235) rfl (stops := [34]) 40 _ _ _ _ ?_
        refine And.intro vp5 ?_
        exact And.intro trivial hw
      refine wp1_ok (by decide) OK_235 (cc := cd_235) rfl (stops := [26]) (f := 40) ?_
      refine And.intro (fun u => ?_) (fun _ => ?_)
      · rw [L25, iZ_lt rp (by decide)] at u; omega
      refine And.intro (fun u => absurd rfl u) (fun _ => ?_)
      exact And.intro trivial e26
  refine smC_wp [some (vR (some (23, 231))), some (vI (iZ i)), none, none, none, none, none] cd_235 [14] 40 OK_235 (by decide) rfl rfl (Nat.le_of_ble_eq_true rfl) ?_
  refine And.intro vp5 ?_
  refine And.intro trivial ?_
  rw [e5]
  have h0 : MI m tp td fl (upq tm 5 (tm 5)) D := by
    rw [up5_same]
    exact h
  exact loop 376 (Nat.le_refl _) m _ none none (Or.inl ⟨rfl, rfl⟩) h0 (Fr.rf _ _) rfl
theorem Q_fastest (hS : SI tp td tm D) (h : MI m tp td fl tm D)
    (hk : ∀ m', MI m' tp td fl tm D → Fr AMa m m' → K (some (vI (iZ (qWl tm D (-1))))) m') : smC true 234 [vR (some (23, 231))] m K := by
  refine smC_wp [some (vR (some (23, 231)))] cd_234 [5] 60 OK_234 (by decide) rfl rfl (Nat.le_of_ble_eq_true rfl) ?_
  refine And.intro trivial ?_
  obtain ⟨h0, F0⟩ := h.b0
  generalize sI m 23 231 0 0 = m0 at *
  refine wp1_ok (by decide) OK_234 (cc := cd_234) rfl (stops := []) (f := 60) ?_
  refine And.intro trivial (M_whole LM1 (Or.inl rfl) hS h0 (fun m1 h1 F1 => ?_))
  exact And.intro trivial (hk m1 h1 (F0.qa.tr F1))
theorem Q_bears {x : Int32} (hx : x = iZ i) (ri : R32 i) (hS : SI tp td tm D) (h : MI m tp td fl tm D)
    (hk : ∀ m', MI m' tp td fl tm D → Fr AMa m m' → K (some (vI (iZ (qBe tm D i)))) m') : smC true 236 [vR (some (23, 231)), vI x] m K := by
  subst hx
  unfold qBe at hk
  refine smC_wp [some (vR (some (23, 231))), some (vI (iZ i))] cd_236 [5] 60 OK_236 (by decide) rfl rfl (Nat.le_of_ble_eq_true rfl) ?_
  refine And.intro trivial ?_
  obtain ⟨h0, F0⟩ := h.b0
  generalize sI m 23 231 0 0 = m0 at *
  refine wp1_ok (by decide) OK_236 (cc := cd_236) rfl (stops := []) (f := 60) ?_
  refine And.intro trivial (M_isThere rfl ri hS.dok h0.2.2.1 (fun q => ?_) (fun q => ?_))
  · rw [if_pos q] at hk
    refine And.intro (fun z => absurd z (by decide)) (fun _ => ?_)
    refine And.intro trivial (M_whole rfl (Or.inr q) hS h0 (fun m1 h1 F1 => ?_))
    exact And.intro trivial (hk m1 h1 (F0.qa.tr F1))
  · rw [if_neg q] at hk
    refine And.intro (fun _ => ?_) (fun z => absurd rfl z)
    exact And.intro trivial (hk m0 h0 F0.qa)
end OPSA
