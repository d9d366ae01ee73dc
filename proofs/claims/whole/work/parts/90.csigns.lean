/-! THE CLASS's reader: readBody, readBehind -/
section CSGN
variable {m : Mem} {K : Option SV → Mem → Prop} {tp : Nat → Int} {n nn : Nat} {t : TK}
def CQ (m : Mem) (nn : Nat) (q : Int × Int × Bool) : Prop := gI m 8 nn 10 = iZ q.1 ∧ gI m 8 nn 11 = iZ q.2.1 ∧ gI m 1 1 14 = (if q.2.2 then 1 else 0)
def QOK (q : Int × Int × Bool) : Prop := sgOK q.1 ∧ sgOK q.2.1
theorem CQ.fr {A : Nat → Nat → Nat → Prop} {m' : Mem} {q : Int × Int × Bool} (h : CQ m nn q) (F : Fr A m m') (h1 : ¬ A 8 nn 10) (h2 : ¬ A 8 nn 11) (h3 : ¬ A 1 1 14) : CQ m' nn q :=
  ⟨(F.2 _ _ _ h1).trans h.1, (F.2 _ _ _ h2).trans h.2.1, (F.2 _ _ _ h3).trans h.2.2⟩
theorem isW_no0 {k : Nat} (h : t.1 = 0) : ¬ isW tp k t = true := fun w => by have := (isW_iff.mp w).1; omega
def AYs (nn : Nat) : Nat → Nat → Nat → Prop := fun t n k => AR t n k ∨ (t = 1 ∧ n = 1 ∧ k = 14) ∨ (t = 8 ∧ n = nn ∧ (k = 10 ∨ k = 11))
theorem AR_AYs {t n k : Nat} (h : AR t n k) : AYs nn t n k := Or.inl h
theorem AYs_AY {t n k : Nat} (h : AYs nn t n k) : AY nn t n k := by
  rcases h with h | h | ⟨h1, h2, h3⟩
  · exact Or.inl h
  · exact Or.inr (Or.inl h)
  · exact Or.inr (Or.inr ⟨h1, h2, by omega⟩)
theorem sg_loop (hT : TPOK tp) (hn : n ≤ 800) {X : RE ((Int × Int × Bool) × TK)} {m0 : Mem}
    (hF : ∀ m' e, X = .inl e → FTd m' e → Fr (AYs nn) m0 m' → K (some (vI 0)) m') (hS : ∀ m' q' t', X = .inr (q', t') → RS m' tp n t' → CQ m' nn q' → Fr (AYs nn) m0 m' → K (some (vI 1)) m') :
    ∀ (f : Nat) (q : Int × Int × Bool) (t : TK) (m : Mem) (k : Nat) (x3 x4 : Option SV), (x3 = none ∧ x4 = none ∨ ∃ y3 y4, x3 = some (vI y3) ∧ x4 = some (vI y4)) → k + f = n → TOK tp n t → QOK q → RS m tp n t → CQ m nn q → Fr (AYs nn) m0 m → pSgs tp n f q t = X →
      smE true 27 28 [some (vR (some (1, 1))), some (vR (some (8, nn))), some (vI (iZ k)), x3, x4] [] m K := by
  intro f
  induction f with
  | zero =>
    intro q t m k x3 x4 hx34 hk ht hq hR hC F0 hX
    unfold pSgs at hX
    refine wp1_ok (by decide) OK_27 (cc := cd_27) rfl (stops := [28]) (f := 60) ?_
    refine And.intro (fun _ => ?_) (fun z => ?_)
    · exact And.intro (Or.inr rfl) (hS m _ _ hX.symm hR hC F0)
    · rw [hR.1.1.2, iZ_le (by constructor <;> omega) (by constructor <;> omega)] at z; omega
  | succ f ih =>
    intro q t m k x3 x4 hx34 hk ht hq hR hC F0 hX
    unfold pSgs at hX
    have o1 := nx_ok hT hn ht
    have hs := sgn_rng (nx tp n t)
    have tell : ∀ (up : Bool) (m1 : Mem) (x4 : Option SV), (x4 = none ∨ ∃ y4, x4 = some (vI y4)) → isW tp 17 t = up → (isW tp 17 t = true ∨ isW tp 18 t = true) → RS m1 tp n (nx tp n t) → Fr AT m m1 → smE true 27 58 [some (vR (some (1, 1))), some (vR (some (8, nn))), some (vI (iZ k)), some (vI (if up then 1 else 0)), x4] [] m1 K := by
      intro up m1 x4 hx4 hup hor R1 F1
      rw [if_pos hor] at hX
      have C1 := hC.fr F1 (by unfold AT; omega) (by unfold AT; omega) (by unfold AT; omega)
      have F01 : Fr (AYs nn) m0 m1 := F0.tr (F1.mono (fun t n k z => AR_AYs (AT_AR z)))
      have rest : smE true 27 64 [some (vR (some (1, 1))), some (vR (some (8, nn))), some (vI (iZ k)), some (vI (if up then 1 else 0)), some (vI (iZ (sgn (nx tp n t))))] [] m1 K := by
        refine wp_ok (by decide) OK_27 (cc := cd_27) rfl (stops := [28]) 60 _ _ _ _ ?_
        refine And.intro (fun z => ?_) (fun z => ?_)
        · rw [L2, iZ_eq (by constructor <;> omega) (by decide)] at z
          rw [if_neg z] at hX
          refine And.intro trivial (c_adv hT hn o1.1 R1 (fun m2 R2 F2 => ?_))
          have C2 := C1.fr F2 (by unfold AT; omega) (by unfold AT; omega) (by unfold AT; omega)
          refine And.intro trivial (c_tellSign (up := up) (u := q.1) (d := q.2.1) (tw := q.2.2) rfl rfl hq.1 hq.2 C2.1 C2.2.1 C2.2.2 (fun m3 a1 a2 a3 F3 => ?_))
          refine And.intro trivial ?_
          rw [L1, iZ_add]
          have R3 : RS m3 tp n (nx tp n (nx tp n t)) := R2.fr F3 (fun n k => by omega) (fun k hk => by omega)
          have F03 : Fr (AYs nn) m0 m3 := (F01.tr (F2.mono (fun t n k z => AR_AYs (AT_AR z)))).tr (F3.mono (fun t n k z => by
            rcases z with z | z
            · exact Or.inr (Or.inl z)
            · exact Or.inr (Or.inr z)))
          refine ih _ _ m3 (k + 1) _ _ (Or.inr ⟨_, _, rfl, rfl⟩) (by omega) (nx_ok hT hn o1.1).1 ?_ R3 ?_ F03 hX
          · rw [hup]
            cases up with
            | true => exact ⟨hs, hq.2⟩
            | false => exact ⟨hq.1, hs⟩
          · rw [hup]
            cases up with
            | true => exact ⟨a1, a2, a3⟩
            | false => exact ⟨a1, a2, a3⟩
        · rw [L2, iZ_eq (by constructor <;> omega) (by decide)] at z
          rw [if_pos z] at hX
          refine And.intro trivial (c_fail (a := 1) (p := (nx tp n t).2.1) rfl R1.2.2.1 (fun m3 f1 f2 F3 => ?_))
          exact And.intro (Or.inl rfl) (hF m3 _ hX.symm ⟨f1, f2⟩ (F01.tr (F3.mono (fun t n k z => AR_AYs (AF_AR z)))))
      rcases hx4 with rfl | ⟨y4, rfl⟩
      · refine wp_ok (by decide) OK_27 (cc := cd_27) rfl (stops := [64]) 60 _ _ _ _ ?_
        refine And.intro trivial (c_signHere o1.1 R1 ?_)
        exact And.intro trivial rest
      · refine wp_ok (by decide) OK_27 (cc := cd_27) rfl (stops := [64]) 60 _ _ _ _ ?_
        refine And.intro trivial (c_signHere o1.1 R1 ?_)
        exact And.intro trivial rest
    have nxt : ∀ (x4 : Option SV), (x4 = none ∨ ∃ y4, x4 = some (vI y4)) → ¬ isW tp 17 t = true → smE true 27 47 [some (vR (some (1, 1))), some (vR (some (8, nn))), some (vI (iZ k)), some (vI 0), x4] [] m K := by
      intro x4 hx4 h1
      refine wp_ok (by decide) OK_27 (cc := cd_27) rfl (stops := [58]) 60 _ _ _ _ ?_
      refine And.intro trivial (c_takeWord (c := 11) (by decide) (by decide) (by decide) hT hn ht hR (fun m1 h2 R1 F1 => ?_) (fun h2 => ?_))
      · refine And.intro (fun _ => ?_) (fun z => absurd z (by decide))
        exact And.intro trivial (tell false m1 x4 hx4 (by simpa using h1) (Or.inr h2) R1 F1)
      · refine And.intro (fun z => absurd rfl z) (fun _ => ?_)
        rw [if_neg (by rintro (w | w); exact h1 w; exact h2 w)] at hX
        exact And.intro (Or.inr rfl) (hS m _ _ hX.symm hR hC F0)
    refine wp1_ok (by decide) OK_27 (cc := cd_27) rfl (stops := [28, 42]) (f := 60) ?_
    refine And.intro (fun z => ?_) (fun _ => ?_)
    · rw [hR.1.1.2, iZ_le (by constructor <;> omega) (by constructor <;> omega)] at z; omega
    have g42 : ∀ (up : Bool) (m1 : Mem), (up = true → (smE true 27 58 [some (vR (some (1, 1))), some (vR (some (8, nn))), some (vI (iZ k)), some (vI 1), x4] [] m1 K)) → (up = false → smE true 27 47 [some (vR (some (1, 1))), some (vR (some (8, nn))), some (vI (iZ k)), some (vI 0), x4] [] m1 K) → smE true 27 42 [some (vR (some (1, 1))), some (vR (some (8, nn))), some (vI (iZ k)), x3, x4] [vI (if up then 1 else 0)] m1 K := by
      intro up m1 a1 a0
      rcases hx34 with ⟨rfl, rfl⟩ | ⟨y3, y4, rfl, rfl⟩
      · refine wp_ok (by decide) OK_27 (cc := cd_27) rfl (stops := [47, 58]) 60 _ _ _ _ ?_
        cases up with
        | true =>
          refine And.intro (fun _ => ?_) (fun z => absurd z (by decide))
          exact And.intro trivial (a1 rfl)
        | false =>
          refine And.intro (fun z => absurd rfl z) (fun _ => ?_)
          exact And.intro trivial (a0 rfl)
      · refine wp_ok (by decide) OK_27 (cc := cd_27) rfl (stops := [47, 58]) 60 _ _ _ _ ?_
        cases up with
        | true =>
          refine And.intro (fun _ => ?_) (fun z => absurd z (by decide))
          exact And.intro trivial (a1 rfl)
        | false =>
          refine And.intro (fun z => absurd rfl z) (fun _ => ?_)
          exact And.intro trivial (a0 rfl)
    have hx4 : x4 = none ∨ ∃ y4, x4 = some (vI y4) := by
      rcases hx34 with ⟨_, h⟩ | ⟨_, y4, _, h⟩
      · exact Or.inl h
      · exact Or.inr ⟨y4, h⟩
    refine And.intro trivial (c_takeWord (c := 10) (by decide) (by decide) (by decide) hT hn ht hR (fun m1 h1 R1 F1 => ?_) (fun h1 => ?_))
    · exact And.intro trivial (g42 true m1 (fun _ => tell true m1 x4 hx4 h1 (Or.inl h1) R1 F1) (fun w => by cases w))
    · exact And.intro trivial (g42 false m (fun w => by cases w) (fun _ => nxt x4 hx4 h1))
theorem c_readBody (hT : TPOK tp) (hn : n ≤ 800) (ht : TOK tp n t) (hR : RS m tp n t) (e10 : gI m 8 nn 10 = iZ 2) (e11 : gI m 8 nn 11 = iZ 2)
    (hF : ∀ m' e, pBody tp n t = .inl e → FTd m' e → Fr (AY nn) m m' → K (some (vI 0)) m') (hS : ∀ m' bd q' t', pBody tp n t = .inr (bd, q', t') → RS m' tp n t' → CQ m' nn q' → gI m' 8 nn 9 = iZ bd → Fr (AY nn) m m' → K (some (vI 1)) m') : smC true 27 [vR (some (1, 1)), vR (some (8, nn))] m K := by
  unfold pBody at hF hS
  have rb : 0 ≤ bodyF tp t 8 ∧ bodyF tp t 8 ≤ 8 := by
    have : ∀ f : Nat, f ≤ 8 → 0 ≤ bodyF tp t f ∧ bodyF tp t f ≤ 8 := by
      intro f
      induction f with
      | zero => intro _; exact ⟨Int.le_refl 0, by show (0 : Int) ≤ 8; omega⟩
      | succ f ih =>
        intro hf
        unfold bodyF; split
        · omega
        · exact ih (by omega)
    exact this 8 (by decide)
  refine smC_wp [some (vR (some (1, 1))), some (vR (some (8, nn))), none, none, none] cd_27 [5] 60 OK_27 (by decide) rfl rfl (Nat.le_of_ble_eq_true rfl) ?_
  refine And.intro (Or.inl rfl) ?_
  refine And.intro trivial ?_
  have G1 : Fr (fun t n k => t = 1 ∧ n = 1 ∧ k = 14) m (sI m 1 1 14 0) := Fr.st ⟨rfl, rfl, rfl⟩
  have R1 : RS (sI m 1 1 14 0) tp n t := hR.fr G1 (fun n k => by omega) (fun k hk => by omega)
  have F1 : Fr (AY nn) m (sI m 1 1 14 0) := Fr.st (Or.inr (Or.inl ⟨rfl, rfl, rfl⟩))
  have C1 : CQ (sI m 1 1 14 0) nn (2, 2, false) := ⟨(G1.2 _ _ _ (by omega)).trans e10, (G1.2 _ _ _ (by omega)).trans e11, by rw [gI_s, if_pos ⟨rfl, rfl, rfl⟩]; rfl⟩
  generalize sI m 1 1 14 0 = m1 at *
  refine wp1_ok (by decide) OK_27 (cc := cd_27) rfl (stops := [13]) (f := 60) ?_
  refine And.intro trivial (c_bodyHere hT hn ht R1 ?_)
  refine And.intro trivial ?_
  have G2 : Fr (fun t n k => t = 8 ∧ n = nn ∧ k = 9) m1 (sI m1 8 nn 9 (iZ (bodyF tp t 8))) := Fr.st ⟨rfl, rfl, rfl⟩
  have R2 : RS (sI m1 8 nn 9 (iZ (bodyF tp t 8))) tp n t := R1.fr G2 (fun n k => by omega) (fun k hk => by omega)
  have F2 : Fr (AY nn) m (sI m1 8 nn 9 (iZ (bodyF tp t 8))) := F1.tr (Fr.st (Or.inr (Or.inr ⟨rfl, rfl, by omega⟩)))
  have C2 : CQ (sI m1 8 nn 9 (iZ (bodyF tp t 8))) nn (2, 2, false) := C1.fr G2 (by omega) (by omega) (by omega)
  have b2 : gI (sI m1 8 nn 9 (iZ (bodyF tp t 8))) 8 nn 9 = iZ (bodyF tp t 8) := by rw [gI_s, if_pos ⟨rfl, rfl, rfl⟩]
  generalize sI m1 8 nn 9 (iZ (bodyF tp t 8)) = m2 at *
  refine wp1_ok (by decide) OK_27 (cc := cd_27) rfl (stops := [28]) (f := 60) ?_
  refine And.intro (fun z => ?_) (fun z => ?_)
  · rw [b2, L0, iZ_eq (by constructor <;> omega) (by decide)] at z
    rw [if_neg z] at hF hS
    refine And.intro trivial (c_adv hT hn ht R2 (fun m3 R3 F3 => ?_))
    refine And.intro trivial ?_
    have F23 : Fr (AY nn) m m3 := F2.tr (F3.mono (fun t n k z => AR_AY (AT_AR z)))
    have C3 := C2.fr F3 (by unfold AT; omega) (by unfold AT; omega) (by unfold AT; omega)
    have b3 : gI m3 8 nn 9 = iZ (bodyF tp t 8) := (F3.2 _ _ _ (by unfold AT; omega)).trans b2
    refine sg_loop (X := pSgs tp n n (2, 2, false) (nx tp n t)) (m0 := m3) hT hn (fun m' e hX f F => hF m' e (by rw [hX]) f (F23.tr (F.mono (fun t n k z => AYs_AY z)))) (fun m' q' t' hX R C F => ?_) n (2, 2, false) (nx tp n t) m3 0 none none (Or.inl ⟨rfl, rfl⟩) (by omega) (nx_ok hT hn ht).1 ⟨by constructor <;> decide, by constructor <;> decide⟩ R3 C3 (Fr.rf _ _) rfl
    exact hS m' _ _ _ (by rw [hX]) R C ((F.2 _ _ _ (by unfold AYs AR; omega)).trans b3) (F23.tr (F.mono (fun t n k z => AYs_AY z)))
  · rw [b2, L0, iZ_eq (by constructor <;> omega) (by decide)] at z
    rw [if_pos z] at hS
    exact And.intro (Or.inr rfl) (hS m2 _ _ _ rfl R2 C2 (by rw [b2, z]) F2)
theorem c_readBehind (hT : TPOK tp) (hn : n ≤ 800) (ht : TOK tp n t) (hR : RS m tp n t) (e12 : gI m 8 nn 12 = iZ 0)
    (h : ∀ m', RS m' tp n (pBeh tp n t).2 → gI m' 8 nn 12 = iZ (pBeh tp n t).1 → Fr (fun t n k => AR t n k ∨ (t = 8 ∧ n = nn ∧ k = 12)) m m' → K none m') : smC true 30 [vR (some (1, 1)), vR (some (8, nn))] m K := by
  unfold pBeh at h
  refine smC_wp [some (vR (some (1, 1))), some (vR (some (8, nn)))] cd_30 [] 60 OK_30 (by decide) rfl rfl (Nat.le_of_ble_eq_true rfl) ?_
  refine And.intro trivial (c_takeWord (c := 13) (by decide) (by decide) (by decide) hT hn ht hR (fun m1 h1 R1 F1 => ?_) (fun h1 => ?_))
  · have h1 : isW tp 19 t = true := h1
    rw [if_pos h1] at h
    refine And.intro (fun z => absurd z (by decide)) (fun _ => ?_)
    refine And.intro trivial (h _ (R1.fr (A := fun t n k => t = 8) (Fr.st rfl) (fun n k => by omega) (fun k hk => by omega)) ?_ ((F1.mono (fun t n k z => Or.inl (AT_AR z))).tr (Fr.st (Or.inr ⟨rfl, rfl, rfl⟩))))
    rw [gI_s, if_pos ⟨rfl, rfl, rfl⟩]; rfl
  have h1 : ¬ isW tp 19 t = true := h1
  rw [if_neg h1] at h
  refine And.intro (fun _ => ?_) (fun z => absurd rfl z)
  refine And.intro trivial (c_takeWord (c := 14) (by decide) (by decide) (by decide) hT hn ht hR (fun m1 h2 R1 F1 => ?_) (fun h2 => ?_))
  · have h2 : isW tp 20 t = true := h2
    rw [if_pos h2] at h
    refine And.intro (fun z => absurd z (by decide)) (fun _ => ?_)
    refine And.intro trivial (h _ (R1.fr (A := fun t n k => t = 8) (Fr.st rfl) (fun n k => by omega) (fun k hk => by omega)) ?_ ((F1.mono (fun t n k z => Or.inl (AT_AR z))).tr (Fr.st (Or.inr ⟨rfl, rfl, rfl⟩))))
    rw [gI_s, if_pos ⟨rfl, rfl, rfl⟩]; rfl
  · have h2 : ¬ isW tp 20 t = true := h2
    rw [if_neg h2] at h
    refine And.intro (fun _ => ?_) (fun z => absurd rfl z)
    exact And.intro trivial (h m hR e12 (Fr.rf _ _))
end CSGN
