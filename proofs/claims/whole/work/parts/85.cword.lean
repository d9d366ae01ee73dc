/-! THE CLASS's reader: words, letters, bodies -/
def pw2 (v : Int) : Bool := decide (0 < v) && decide (iZ v &&& (iZ v - 1) = 0)
def tldN (told : Nat → Int) (s : Int) : Int := if 0 ≤ s ∧ s < 63 then told s.toNat else 2
section CWRD
variable {m : Mem} {K : Option SV → Mem → Prop} {tp : Nat → Int} {n : Nat} {t : TK}
theorem c_isPow {v : Int} {x : Int32} (hx : x = iZ v) (rv : R32 v) (h1 : pw2 v = true → K (some (vI 1)) m) (h0 : ¬ pw2 v = true → K (some (vI 0)) m) : smC true 97 [vI x] m K := by
  subst hx
  refine smC_wp [some (vI (iZ v))] cd_97 [] 20 OK_97 (by decide) rfl rfl (Nat.le_of_ble_eq_true rfl) ?_
  refine And.intro (fun z => ?_) (fun z => ?_)
  · rw [L0, iZ_le rv (by decide)] at z
    exact And.intro (Or.inl rfl) (h0 (by unfold pw2; simp; omega))
  rw [L0, iZ_le rv (by decide)] at z
  refine And.intro (fun y => ?_) (fun y => ?_)
  · exact And.intro (Or.inl rfl) (h0 (by unfold pw2; simp; exact fun _ => y))
  · exact And.intro (Or.inr rfl) (h1 (by unfold pw2; simp; exact ⟨by omega, y⟩))
theorem c_toldSign {told : Nat → Int} {s : Int} {x : Int32} (hx : x = iZ s) (rs : R32 s) (ht : ∀ k, k < 63 → gI m 3 3 k = iZ (told k)) (h : K (some (vI (iZ (tldN told s)))) m) : smC true 22 [vR (some (1, 1)), vI x] m K := by
  subst hx
  refine smC_wp [some (vR (some (1, 1))), some (vI (iZ s))] cd_22 [] 30 OK_22 (by decide) rfl rfl (Nat.le_of_ble_eq_true rfl) ?_
  unfold tldN at h
  refine And.intro (fun z => ?_) (fun z => ?_)
  · rw [L0, iZ_lt rs (by decide)] at z
    rw [if_neg (by omega)] at h
    exact And.intro trivial h
  rw [L0, iZ_lt rs (by decide)] at z
  refine And.intro (fun y => ?_) (fun y => ?_)
  · have y : nI 63 ≤ iZ s := y
    rw [iZ_nI, iZ_le (by decide) rs] at y
    rw [if_neg (by omega)] at h
    exact And.intro trivial h
  have y : ¬ nI 63 ≤ iZ s := y
  rw [iZ_nI, iZ_le (by decide) rs] at y
  rw [if_pos (by omega)] at h
  refine And.intro ((iZ_in rs).mpr (by omega)) ?_
  refine And.intro trivial ?_
  rw [iZ_clamp rs, ht _ (by omega)]
  exact h
theorem c_letterHere (hT : TPOK tp) (hn : n ≤ 800) (ht : TOK tp n t) (hR : RS m tp n t) (h : K (some (vI (iZ (letT tp t)))) m) : smC true 19 [vR (some (1, 1))] m K := by
  obtain ⟨⟨⟨ct, _⟩, _⟩, e4, e5, e6, e3⟩ := id hR
  have q1 := ht.1
  have q2 := ht.2.1
  refine smC_wp [some (vR (some (1, 1)))] cd_19 [] 40 OK_19 (by decide) rfl rfl (Nat.le_of_ble_eq_true rfl) ?_
  unfold letT at h
  refine And.intro (fun z => ?_) (fun z => ?_)
  · rw [e4, L1, iZ_eq (by constructor <;> omega) (by decide)] at z
    rw [if_neg (by omega)] at h
    exact And.intro trivial h
  rw [e4, L1, iZ_eq (by constructor <;> omega) (by decide)] at z
  refine And.intro (fun y => ?_) (fun y => ?_)
  · rw [e3, e5, L1, iZ_sub, iZ_eq (by constructor <;> omega) (by decide)] at y
    rw [if_neg (by omega)] at h
    exact And.intro trivial h
  rw [e3, e5, L1, iZ_sub, iZ_eq (by constructor <;> omega) (by decide)] at y
  rw [if_pos (by omega)] at h
  have hb := ht.2.2.2.2 z t.2.1 (Nat.le_refl _) (by omega)
  refine And.intro (by rw [e5]; exact (iZ_in (by constructor <;> omega)).mpr (by omega)) ?_
  have ev : gI m 2 2 (gI m 1 1 5).toNatClampNeg = iZ (tp t.2.1) := by
    rw [e5, iZ_clamp (by constructor <;> omega), show ((t.2.1 : Nat) : Int).toNat = t.2.1 by omega]; exact ct _ (by omega)
  refine And.intro trivial (c_indexOf (b := tp t.2.1) ?_ (by omega) ?_)
  · rw [ev]; exact ch_ok (by omega) (by omega)
  · exact And.intro trivial h
/-- a letter's number is told in the memory's tape -/
theorem c_takeWord {c : Nat} (hc : c < 15) (h6 : c ≠ 6) (h12 : c ≠ 12) (hT : TPOK tp) (hn : n ≤ 800) (ht : TOK tp n t) (hR : RS m tp n t) (h1 : ∀ m', isW tp (wk c) t = true → RS m' tp n (nx tp n t) → Fr AT m m' → K (some (vI 1)) m') (h0 : ¬ isW tp (wk c) t = true → K (some (vI 0)) m) : smC true 14 [vR (some (1, 1)), vR (some (61, c))] m K := by
  obtain ⟨⟨⟨ct, _⟩, _⟩, e4, e5, e6, e3⟩ := id hR
  have q1 := ht.1
  have q2 := ht.2.1
  have hl := (sL_rng c (by omega)).1
  have hw := (wk_str c hc h6 h12).1
  have hlen : (wW (wk c)).length = (stS c).length := by rw [← hw]; simp
  have hget : ∀ j, (wW (wk c)).getD j 0 = sB c j := by
    intro j
    rw [← hw]
    unfold sB
    rw [List.getD_eq_getElem?_getD, List.getElem?_map, List.getD_eq_getElem?_getD]
    cases (stS c)[j]? <;> rfl
  refine smC_wp [some (vR (some (1, 1))), some (vR (some (61, c))), none] cd_14 [28] 40 OK_14 (by decide) rfl rfl (Nat.le_of_ble_eq_true rfl) ?_
  refine And.intro (fun z => ?_) (fun z => ?_)
  · rw [e4, L1, iZ_eq (by constructor <;> omega) (by decide)] at z
    exact And.intro (Or.inl rfl) (h0 (fun w => z (isW_iff.mp w).1))
  rw [e4, L1, iZ_eq (by constructor <;> omega) (by decide)] at z
  refine And.intro trivial (c_strLen (by omega) ?_)
  refine And.intro (fun y => ?_) (fun y => ?_)
  rotate_left
  · rw [e3, e5, iZ_sub, iZ_eq (by constructor <;> omega) (by constructor <;> omega)] at y
    refine And.intro (Or.inl rfl) (h0 (fun w => y ?_))
    have := congrArg List.length (isW_iff.mp w).2
    rw [txt_len, hlen] at this
    omega
  rw [e3, e5, iZ_sub, iZ_eq (by constructor <;> omega) (by constructor <;> omega)] at y
  have el : t.2.2.2 - t.2.1 = (stS c).length := by omega
  refine And.intro trivial ?_
  have loop : ∀ (r j : Nat), j + r = (stS c).length → (∀ q, q < j → tp (t.2.1 + q) = sB c q) → smE true 14 28 [some (vR (some (1, 1))), some (vR (some (61, c))), some (vI (iZ j))] [] m K := by
    intro r
    induction r with
    | zero =>
      intro j ej hq
      refine wp1_ok (by decide) OK_14 (cc := cd_14) rfl (stops := [28]) (f := 40) ?_
      refine And.intro trivial (c_strLen (by omega) ?_)
      refine And.intro (fun _ => ?_) (fun w => ?_)
      rotate_left
      · rw [iZ_le (by constructor <;> omega) (by constructor <;> omega)] at w; omega
      have his : isW tp (wk c) t = true := by
        refine isW_iff.mpr ⟨z, list_ext0 (by rw [txt_len, hlen]; exact el) (fun q hq2 => ?_)⟩
        rw [hlen] at hq2
        rw [txt_get _ _ _ _ (by omega), hget]; exact hq q (by omega)
      refine And.intro trivial (c_adv hT hn ht hR (fun m1 R1 F1 => ?_))
      exact And.intro (Or.inr rfl) (h1 m1 his R1 F1)
    | succ r ih =>
      intro j ej hq
      have hb := ht.2.2.2.2 z (t.2.1 + j) (by omega) (by omega)
      have hs := sB_ch c (by omega) j (by omega)
      refine wp1_ok (by decide) OK_14 (cc := cd_14) rfl (stops := [28]) (f := 40) ?_
      refine And.intro trivial (c_strLen (by omega) ?_)
      refine And.intro (fun w => ?_) (fun _ => ?_)
      · rw [iZ_le (by constructor <;> omega) (by constructor <;> omega)] at w; omega
      have ea : gI m 1 1 5 + iZ (j : Int) = iZ ((t.2.1 + j : Nat) : Int) := by rw [e5, iZ_add]; congr 1
      refine And.intro (by rw [ea]; exact (iZ_in (by constructor <;> omega)).mpr (by omega)) ?_
      have ev : gI m 2 2 (gI m 1 1 5 + iZ (j : Int)).toNatClampNeg = iZ (tp (t.2.1 + j)) := by
        rw [ea, iZ_clamp (by constructor <;> omega), show ((t.2.1 + j : Nat) : Int).toNat = t.2.1 + j by omega]; exact ct _ (by omega)
      refine And.intro trivial (c_charAt rfl (by omega) (by omega) ?_)
      rw [ev]
      refine And.intro (fun w => ?_) (fun w => ?_)
      · rw [iZ_eq (by constructor <;> omega) (by constructor <;> omega)] at w
        refine And.intro trivial ?_
        rw [L1, iZ_add]
        refine ih (j + 1) (by omega) (fun q hq2 => ?_)
        by_cases e : q = j
        · subst e; exact w
        · exact hq q (by omega)
      · rw [iZ_eq (by constructor <;> omega) (by constructor <;> omega)] at w
        refine And.intro (Or.inl rfl) (h0 (fun u => w ?_))
        have : (txt tp t.2.1 (t.2.2.2 - t.2.1)).getD j 0 = (wW (wk c)).getD j 0 := by rw [(isW_iff.mp u).2]
        rw [txt_get _ _ _ _ (by omega), hget] at this
        exact this
  exact loop (stS c).length 0 (by omega) (fun q hq => by omega)
theorem body_w : ∀ k, k < 8 → wW (9 + k) = [sB 12 (2 * k), sB 12 (2 * k + 1)] ∧ (stS 12).length = 16 := by decide +kernel
theorem c_bodyHere (hT : TPOK tp) (hn : n ≤ 800) (ht : TOK tp n t) (hR : RS m tp n t) (h : K (some (vI (iZ (bodyF tp t 8)))) m) : smC true 28 [vR (some (1, 1))] m K := by
  obtain ⟨⟨⟨ct, _⟩, _⟩, e4, e5, e6, e3⟩ := id hR
  have q1 := ht.1
  have q2 := ht.2.1
  have no : ¬ (t.1 = 1 ∧ t.2.2.2 - t.2.1 = 2) → ∀ f, f ≤ 8 → bodyF tp t f = 0 := by
    intro hn f
    induction f with
    | zero => intro _; rfl
    | succ f ih =>
      intro hf
      unfold bodyF
      rw [if_neg, ih (by omega)]
      intro w
      have w' := isW_iff.mp w
      have := congrArg List.length w'.2
      have hb := (body_w (7 - f) (by omega)).1
      rw [txt_len, show 16 - f = 9 + (7 - f) by omega, hb] at this
      exact hn ⟨w'.1, this⟩
  refine smC_wp [some (vR (some (1, 1))), none, none] cd_28 [25] 40 OK_28 (by decide) rfl rfl (Nat.le_of_ble_eq_true rfl) ?_
  refine And.intro (fun z => ?_) (fun z => ?_)
  · rw [e4, L1, iZ_eq (by constructor <;> omega) (by decide)] at z
    rw [no (fun w => z w.1) 8 (by decide)] at h
    exact And.intro trivial h
  rw [e4, L1, iZ_eq (by constructor <;> omega) (by decide)] at z
  refine And.intro (fun y => ?_) (fun y => ?_)
  rotate_left
  · rw [e3, e5, L2, iZ_sub, iZ_eq (by constructor <;> omega) (by decide)] at y
    rw [no (fun w => y (by omega)) 8 (by decide)] at h
    exact And.intro trivial h
  rw [e3, e5, L2, iZ_sub, iZ_eq (by constructor <;> omega) (by decide)] at y
  have el : t.2.2.2 - t.2.1 = 2 := by omega
  have etx : txt tp t.2.1 (t.2.2.2 - t.2.1) = [tp t.2.1, tp (t.2.1 + 1)] := by rw [el]; rfl
  have hb0 := ht.2.2.2.2 z t.2.1 (by omega) (by omega)
  have hb1 := ht.2.2.2.2 z (t.2.1 + 1) (by omega) (by omega)
  have ev0 : gI m 2 2 (gI m 1 1 5).toNatClampNeg = iZ (tp t.2.1) := by
    rw [e5, iZ_clamp (by constructor <;> omega), show ((t.2.1 : Nat) : Int).toNat = t.2.1 by omega]; exact ct _ (by omega)
  have ea : gI m 1 1 5 + 1 = iZ ((t.2.1 + 1 : Nat) : Int) := by rw [e5, L1, iZ_add]; congr 1
  have ev1 : gI m 2 2 (gI m 1 1 5 + 1).toNatClampNeg = iZ (tp (t.2.1 + 1)) := by
    rw [ea, iZ_clamp (by constructor <;> omega), show ((t.2.1 + 1 : Nat) : Int).toNat = t.2.1 + 1 by omega]; exact ct _ (by omega)
  refine And.intro trivial ?_
  obtain ⟨B, eB⟩ : ∃ B, B = bodyF tp t 8 := ⟨_, rfl⟩
  rw [← eB] at h
  have loop : ∀ (f k : Nat) (x2 : Option SV), k + f = 8 → (x2 = none ∨ ∃ y, x2 = some (vI y)) → bodyF tp t f = B → smE true 28 25 [some (vR (some (1, 1))), some (vI (iZ ((k : Int) + 1))), x2] [] m K := by
    intro f
    induction f with
    | zero =>
      intro k x2 ek hx eb
      have ek : k = 8 := by omega
      subst ek
      refine wp1_ok (by decide) OK_28 (cc := cd_28) rfl (stops := [25]) (f := 40) ?_
      refine And.intro (fun _ => ?_) (fun w => absurd (by decide) w)
      rw [← eb] at h
      exact And.intro trivial h
    | succ f ih =>
      intro k x2 ek hx eb
      have hbw := body_w k (by omega)
      have s0 := sB_ch 12 (by decide) (2 * k) (by omega)
      have s1 := sB_ch 12 (by decide) (2 * k + 1) (by omega)
      have ek2 : (2 : Int32) * (iZ ((k : Int) + 1) - 1) = iZ ((2 * k : Nat) : Int) := by rw [L1, L2, iZ_sub, iZ_mul]; congr 1; omega
      have ek3 : (iZ ((2 * k : Nat) : Int)) + 1 = iZ ((2 * k + 1 : Nat) : Int) := by rw [L1, iZ_add]; congr 1
      have iw : isW tp (16 - f) t = true ↔ tp t.2.1 = sB 12 (2 * k) ∧ tp (t.2.1 + 1) = sB 12 (2 * k + 1) := by
        rw [isW_iff, etx, show 16 - f = 9 + k by omega, hbw.1]
        constructor
        · rintro ⟨_, w⟩
          injection w with w1 w2
          injection w2 with w2 _
          exact ⟨w1, w2⟩
        · rintro ⟨w1, w2⟩; rw [w1, w2]; exact ⟨z, rfl⟩
      unfold bodyF at eb
      have nxt : ¬ isW tp (16 - f) t = true → smE true 28 81 [some (vR (some (1, 1))), some (vI (iZ ((k : Int) + 1))), some (vI (iZ ((2 * k : Nat) : Int)))] [] m K := by
        intro w
        rw [if_neg w] at eb
        refine wp_ok (by decide) OK_28 (cc := cd_28) rfl (stops := [25]) 20 _ _ _ _ ?_
        refine And.intro trivial ?_
        rw [L1, iZ_add]
        exact ih (k + 1) _ (by omega) (Or.inr ⟨_, rfl⟩) eb
      have st37 : smE true 28 37 [some (vR (some (1, 1))), some (vI (iZ ((k : Int) + 1))), some (vI (iZ ((2 * k : Nat) : Int)))] [] m K := by
        refine wp_ok (by decide) OK_28 (cc := cd_28) rfl (stops := [81]) 40 _ _ _ _ ?_
        refine And.intro (by rw [e5]; exact (iZ_in (by constructor <;> omega)).mpr (by omega)) ?_
        refine And.intro trivial (c_charAt rfl (by decide) (by omega) ?_)
        rw [ev0]
        refine And.intro (fun w => ?_) (fun w => ?_)
        · rw [iZ_eq (by constructor <;> omega) (by constructor <;> omega)] at w
          exact And.intro trivial (nxt (fun u => w (iw.mp u).1))
        rw [iZ_eq (by constructor <;> omega) (by constructor <;> omega)] at w
        refine And.intro (by rw [ea]; exact (iZ_in (by constructor <;> omega)).mpr (by omega)) ?_
        refine And.intro trivial (c_charAt ek3 (by decide) (by omega) ?_)
        rw [ev1]
        refine And.intro (fun w2 => ?_) (fun w2 => ?_)
        · rw [iZ_eq (by constructor <;> omega) (by constructor <;> omega)] at w2
          exact And.intro trivial (nxt (fun u => w2 (iw.mp u).2))
        rw [iZ_eq (by constructor <;> omega) (by constructor <;> omega)] at w2
        rw [if_pos (iw.mpr ⟨w, w2⟩)] at eb
        rw [← eb, show (8 : Int) - f = (k : Int) + 1 by omega] at h
        exact And.intro trivial h
      refine wp1_ok (by decide) OK_28 (cc := cd_28) rfl (stops := [25, 37]) (f := 40) ?_
      refine And.intro (fun w => ?_) (fun _ => ?_)
      · rw [L8, iZ_lt (by decide) (by constructor <;> omega)] at w; omega
      rcases hx with rfl | ⟨y, rfl⟩
      · refine And.intro trivial ?_
        rw [ek2]; exact st37
      · refine And.intro trivial ?_
        rw [ek2]; exact st37
  exact loop 8 0 none rfl (Or.inl rfl) eB.symm
end CWRD
