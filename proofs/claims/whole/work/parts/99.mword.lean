/-! THE MODEL's reader: words -/
def offW : Nat → Nat
  | 0 => 0
  | w + 1 => offW w + (wW w).length + 1
def wtab (k : Nat) : Int := (wds.flatMap (fun l => l ++ [0])).getD k 0
theorem wtab_w : ∀ w, w < 21 → (∀ j, j < (wW w).length → wtab (offW w + j) = (wW w).getD j 0 ∧ 97 ≤ (wW w).getD j 0 ∧ (wW w).getD j 0 ≤ 122) ∧ wtab (offW w + (wW w).length) = 0 ∧ offW w + (wW w).length + 1 ≤ 77 ∧ (wW w).length ≤ 5 := by decide +kernel
def MWd (m : Mem) : Prop := ∀ k, k < 77 → gI m 32 240 k = iZ (wtab k)
/-- the Model's reader at a token, nothing wrong so far -/
def MRS (m : Mem) (tp : Nat → Int) (n : Nat) (t : TK) : Prop := MTp m tp n ∧ MTk m t
theorem sg_lo {b : Int} (h : b < 128) : sg b = b := by unfold sg; rw [if_pos h]
section MWORD
variable {m : Mem} {K : Option SV → Mem → Prop} {tp : Nat → Int} {n : Nat} {t : TK}
theorem MRS.fr {A : Nat → Nat → Nat → Prop} {m' : Mem} (h : MRS m tp n t) (F : Fr A m m') (hA : ∀ n k, ¬ A 31 n k) (hB : ∀ k, (k = 10 ∨ k = 11 ∨ 14 ≤ k ∧ k ≤ 17) → ¬ A 23 231 k) : MRS m' tp n t :=
  ⟨h.1.fr F hA (hB 10 (by omega)), (F.2 _ _ _ (hB 14 (by omega))).trans h.2.1, (F.2 _ _ _ (hB 15 (by omega))).trans h.2.2.1, (F.2 _ _ _ (hB 17 (by omega))).trans h.2.2.2.1, (F.2 _ _ _ (hB 11 (by omega))).trans h.2.2.2.2.1, (F.2 _ _ _ (hB 16 (by omega))).trans h.2.2.2.2.2⟩
theorem M_word1 {e : Int} (hw : gI m 23 231 12 = iZ e) (he : e ≠ 0) (re : R32 e) (h : K (some (vI (iZ 21))) m) : smC true 139 [vR (some (23, 231))] m K := by
  refine smC_wp [some (vR (some (23, 231))), none, none, none, none, none] cd_139 [] 30 OK_139 (by decide) rfl rfl (Nat.le_of_ble_eq_true rfl) ?_
  refine And.intro (fun _ => ?_) (fun z => ?_)
  · exact And.intro trivial h
  · rw [hw, L0, iZ_eq re (by decide)] at z; exact absurd z he
theorem M_word (hw : gI m 23 231 12 = iZ 0) (hW : MWd m) (hT : TPOK tp) (hn : n ≤ 800) (ht : TOK tp n t) (hR : MRS m tp n t) (h : ∀ w : Nat, w ≤ 21 → (w < 21 → isW tp w t = true) → (∀ v, v < w → ¬ isW tp v t = true) → K (some (vI (iZ w))) m) : smC true 139 [vR (some (23, 231))] m K := by
  obtain ⟨⟨ct, _⟩, e14, e15, e17, e11, e16⟩ := id hR
  have a1 := ht.1
  have a2 := ht.2.1
  refine smC_wp [some (vR (some (23, 231))), none, none, none, none, none] cd_139 [22] 40 OK_139 (by decide) rfl rfl (Nat.le_of_ble_eq_true rfl) ?_
  refine And.intro (fun z => absurd hw z) (fun _ => ?_)
  refine And.intro (fun z => ?_) (fun z => ?_)
  rotate_left
  · rw [e14, L1, iZ_eq (by constructor <;> omega) (by decide)] at z
    refine And.intro trivial (h 21 (Nat.le_refl _) (fun q => absurd q (by decide)) (fun v _ u => z (isW_iff.mp u).1))
  rw [e14, L1, iZ_eq (by constructor <;> omega) (by decide)] at z
  refine And.intro trivial ?_
  have hlen : ((t.2.2.2 - t.2.1 : Nat) : Int) = (t.2.2.2 : Int) - t.2.1 := by omega
  have e16' : gI m 23 231 16 = iZ ((t.2.2.2 - t.2.1 : Nat) : Int) := by rw [e16, hlen]
  generalize eL : t.2.2.2 - t.2.1 = len at *
  have tail : ∀ (w : Nat) (is : Bool) (x5 : Int32), w < 21 → (is = true ↔ isW tp w t = true) → (∀ v, v < w → ¬ isW tp v t = true) → (∀ (y3 y4 y5 : Option SV), (y3 = none ∧ y4 = none ∧ y5 = none ∨ ∃ b3 b4 b5, y3 = some (vI b3) ∧ y4 = some (vI b4) ∧ y5 = some (vI b5)) → (∀ v, v < w + 1 → ¬ isW tp v t = true) → smE true 139 22 [some (vR (some (23, 231))), some (vI (iZ (offW (w + 1)))), some (vI (iZ ((w + 1 : Nat) : Int))), y3, y4, y5] [] m K) → smE true 139 116 [some (vR (some (23, 231))), some (vI (iZ ((offW w + (wW w).length : Nat) : Int))), some (vI (iZ w)), some (vI (iZ (offW w))), some (vI (if is then 1 else 0)), some (vI x5)] [] m K := by
    intro w is x5 hw21 his hbef hnext
    refine wp_ok (by decide) OK_139 (cc := cd_139) rfl (stops := [22]) 30 _ _ _ _ ?_
    cases is with
    | true =>
      refine And.intro (fun q => absurd q (by decide)) (fun _ => ?_)
      exact And.intro trivial (h w (by omega) (fun _ => his.mp rfl) hbef)
    | false =>
      refine And.intro (fun _ => ?_) (fun q => absurd rfl q)
      refine And.intro trivial ?_
      rw [L1, iZ_add, iZ_add]
      refine hnext _ _ _ (Or.inr ⟨_, _, _, rfl, rfl, rfl⟩) (fun v hv => ?_)
      by_cases ev : v = w
      · subst ev; exact fun u => absurd (his.mpr u) (by decide)
      · exact hbef v (by omega)
  have f65 : ∀ (w : Nat) (x5 : Int32), w < 21 → ¬ isW tp w t = true → (∀ v, v < w → ¬ isW tp v t = true) → (∀ (y3 y4 y5 : Option SV), (y3 = none ∧ y4 = none ∧ y5 = none ∨ ∃ b3 b4 b5, y3 = some (vI b3) ∧ y4 = some (vI b4) ∧ y5 = some (vI b5)) → (∀ v, v < w + 1 → ¬ isW tp v t = true) → smE true 139 22 [some (vR (some (23, 231))), some (vI (iZ (offW (w + 1)))), some (vI (iZ ((w + 1 : Nat) : Int))), y3, y4, y5] [] m K) → smE true 139 65 [some (vR (some (23, 231))), some (vI (iZ ((offW w + (wW w).length : Nat) : Int))), some (vI (iZ w)), some (vI (iZ (offW w))), some (vI 0), some (vI x5)] [] m K := by
    intro w x5 hw21 hnot hbef hnext
    have g := tail w false x5 hw21 ⟨fun u => (by cases u), fun u => absurd u hnot⟩ hbef hnext
    refine wp1_ok (by decide) OK_139 (cc := cd_139) rfl (stops := [65, 116]) (f := 30) ?_
    refine And.intro (fun _ => And.intro trivial g) (fun _ => ?_)
    refine And.intro (fun _ => And.intro trivial g) (fun u => absurd rfl u)
  have cmp : ∀ (w : Nat), w < 21 → (∀ v, v < w → ¬ isW tp v t = true) → (∀ (y3 y4 y5 : Option SV), (y3 = none ∧ y4 = none ∧ y5 = none ∨ ∃ b3 b4 b5, y3 = some (vI b3) ∧ y4 = some (vI b4) ∧ y5 = some (vI b5)) → (∀ v, v < w + 1 → ¬ isW tp v t = true) → smE true 139 22 [some (vR (some (23, 231))), some (vI (iZ (offW (w + 1)))), some (vI (iZ ((w + 1 : Nat) : Int))), y3, y4, y5] [] m K) → len = (wW w).length → ∀ (r j : Nat), j + r = len → (∀ i, i < j → tp (t.2.1 + i) = (wW w).getD i 0) → smE true 139 65 [some (vR (some (23, 231))), some (vI (iZ ((offW w + (wW w).length : Nat) : Int))), some (vI (iZ w)), some (vI (iZ (offW w))), some (vI 1), some (vI (iZ j))] [] m K := by
    intro w hw21 hbef hnext hlw r
    have wt := wtab_w w hw21
    induction r with
    | zero =>
      intro j ej hj
      refine wp1_ok (by decide) OK_139 (cc := cd_139) rfl (stops := [65, 116]) (f := 30) ?_
      refine And.intro (fun _ => ?_) (fun q => ?_)
      · refine And.intro trivial (tail w true _ hw21 ⟨fun _ => ?_, fun _ => rfl⟩ hbef hnext)
        refine isW_iff.mpr ⟨z, list_ext0 (by rw [txt_len]; omega) (fun i hi => ?_)⟩
        rw [eL, txt_get _ _ _ _ (by omega)]; exact hj i (by omega)
      · rw [e16', iZ_le (by constructor <;> omega) (by constructor <;> omega)] at q; omega
    | succ r ih =>
      intro j ej hj
      have wj := wt.1 j (by omega)
      have hb := ht.2.2.2.2 z (t.2.1 + j) (by omega) (by omega)
      have ea : iZ (offW w : Int) + iZ (j : Int) = iZ ((offW w + j : Nat) : Int) := by rw [iZ_add]; congr 1
      have eb : gI m 23 231 15 + iZ (j : Int) = iZ ((t.2.1 + j : Nat) : Int) := by rw [e15, iZ_add]; congr 1
      have va : gI m 32 240 (iZ ((offW w + j : Nat) : Int)).toNatClampNeg = iZ ((wW w).getD j 0) := by
        rw [iZ_clamp (by constructor <;> omega), show ((offW w + j : Nat) : Int).toNat = offW w + j by omega, hW _ (by omega), wj.1]
      have vb : gI m 31 239 (iZ ((t.2.1 + j : Nat) : Int)).toNatClampNeg = iZ (tp (t.2.1 + j)) := by
        rw [iZ_clamp (by constructor <;> omega), show ((t.2.1 + j : Nat) : Int).toNat = t.2.1 + j by omega, ct _ (by omega), sg_lo (by omega)]
      refine wp1_ok (by decide) OK_139 (cc := cd_139) rfl (stops := [65, 108]) (f := 40) ?_
      refine And.intro (fun q => ?_) (fun _ => ?_)
      · rw [e16', iZ_le (by constructor <;> omega) (by constructor <;> omega)] at q; omega
      refine And.intro (fun q => absurd q (by decide)) (fun _ => ?_)
      refine And.intro (by rw [ea]; exact (iZ_in (by constructor <;> omega)).mpr (by omega)) ?_
      refine And.intro (by rw [eb]; exact (iZ_in (by constructor <;> omega)).mpr (by omega)) ?_
      rw [ea, eb, va, vb]
      refine And.intro (fun q => ?_) (fun q => ?_)
      · rw [iZ_eq (by constructor <;> omega) (by constructor <;> omega)] at q
        refine And.intro trivial ?_
        refine wp1_ok (by decide) OK_139 (cc := cd_139) rfl (stops := [65]) (f := 40) ?_
        refine And.intro trivial ?_
        refine f65 w _ hw21 (fun u => q ?_) hbef hnext
        have : (txt tp t.2.1 (t.2.2.2 - t.2.1)).getD j 0 = (wW w).getD j 0 := by rw [(isW_iff.mp u).2]
        rw [eL, txt_get _ _ _ _ (by omega)] at this
        exact this.symm
      · rw [iZ_eq (by constructor <;> omega) (by constructor <;> omega)] at q
        refine And.intro trivial ?_
        refine wp1_ok (by decide) OK_139 (cc := cd_139) rfl (stops := [65]) (f := 40) ?_
        refine And.intro trivial ?_
        rw [L1, iZ_add]
        refine ih (j + 1) (by omega) (fun i hi => ?_)
        by_cases ei : i = j
        · subst ei; exact q.symm
        · exact hj i (by omega)
  have outer : ∀ (r w : Nat) (y3 y4 y5 : Option SV), w + r = 21 → (y3 = none ∧ y4 = none ∧ y5 = none ∨ ∃ b3 b4 b5, y3 = some (vI b3) ∧ y4 = some (vI b4) ∧ y5 = some (vI b5)) → (∀ v, v < w → ¬ isW tp v t = true) → smE true 139 22 [some (vR (some (23, 231))), some (vI (iZ (offW w))), some (vI (iZ w)), y3, y4, y5] [] m K := by
    intro r
    induction r with
    | zero =>
      intro w y3 y4 y5 ew hy hbef
      have ew : w = 21 := by omega
      subst ew
      refine wp1_ok (by decide) OK_139 (cc := cd_139) rfl (stops := [22]) (f := 30) ?_
      refine And.intro (fun _ => ?_) (fun u => absurd (by decide) u)
      exact And.intro trivial (h 21 (Nat.le_refl _) (fun u => absurd u (by decide)) hbef)
    | succ r ih =>
      intro w y3 y4 y5 ew hy hbef
      have hw21 : w < 21 := by omega
      have wt := wtab_w w hw21
      have hnext : ∀ (y3 y4 y5 : Option SV), (y3 = none ∧ y4 = none ∧ y5 = none ∨ ∃ b3 b4 b5, y3 = some (vI b3) ∧ y4 = some (vI b4) ∧ y5 = some (vI b5)) → (∀ v, v < w + 1 → ¬ isW tp v t = true) → smE true 139 22 [some (vR (some (23, 231))), some (vI (iZ (offW (w + 1)))), some (vI (iZ ((w + 1 : Nat) : Int))), y3, y4, y5] [] m K := fun a3 a4 a5 ha hb => ih (w + 1) a3 a4 a5 (by omega) ha hb
      have zl : ∀ (q j : Nat) (y4 y5 : Option SV), j + q = (wW w).length → (y4 = none ∧ y5 = none ∨ ∃ b4 b5, y4 = some (vI b4) ∧ y5 = some (vI b5)) → smE true 139 30 [some (vR (some (23, 231))), some (vI (iZ ((offW w + j : Nat) : Int))), some (vI (iZ w)), some (vI (iZ (offW w))), y4, y5] [] m K := by
        intro q
        induction q with
        | zero =>
          intro j y4 y5 ej hy45
          have ej : j = (wW w).length := by omega
          subst ej
          have va : gI m 32 240 (iZ ((offW w + (wW w).length : Nat) : Int)).toNatClampNeg = iZ 0 := by
            rw [iZ_clamp (by constructor <;> omega), show ((offW w + (wW w).length : Nat) : Int).toNat = offW w + (wW w).length by omega, hW _ (by omega), wt.2.1]
          have hgo : smE true 139 45 [some (vR (some (23, 231))), some (vI (iZ ((offW w + (wW w).length : Nat) : Int))), some (vI (iZ w)), some (vI (iZ (offW w))), y4, y5] [] m K := by
            have g60 : ∀ is : Bool, (is = true ↔ len = (wW w).length) → smE true 139 60 [some (vR (some (23, 231))), some (vI (iZ ((offW w + (wW w).length : Nat) : Int))), some (vI (iZ w)), some (vI (iZ (offW w))), y4, y5] [vI (if is then 1 else 0)] m K := by
              intro is his
              have g65 : smE true 139 65 [some (vR (some (23, 231))), some (vI (iZ ((offW w + (wW w).length : Nat) : Int))), some (vI (iZ w)), some (vI (iZ (offW w))), some (vI (if is then 1 else 0)), some (vI 0)] [] m K := by
                cases is with
                | true => exact cmp w hw21 hbef hnext (his.mp rfl) len 0 (by omega) (fun i hi => by omega)
                | false =>
                  refine f65 w 0 hw21 (fun u => ?_) hbef hnext
                  have := congrArg List.length (isW_iff.mp u).2
                  rw [eL, txt_len] at this
                  exact absurd (his.mpr this) (by decide)
              rcases hy45 with ⟨rfl, rfl⟩ | ⟨b4, b5, rfl, rfl⟩
              · refine wp_ok (by decide) OK_139 (cc := cd_139) rfl (stops := [65]) 30 _ _ _ _ ?_
                exact And.intro trivial g65
              · refine wp_ok (by decide) OK_139 (cc := cd_139) rfl (stops := [65]) 30 _ _ _ _ ?_
                exact And.intro trivial g65
            refine wp_ok (by decide) OK_139 (cc := cd_139) rfl (stops := [60]) 30 _ _ _ _ ?_
            refine And.intro (fun u => ?_) (fun u => ?_)
            · rw [e16', iZ_sub, iZ_eq (by constructor <;> omega) (by constructor <;> omega)] at u
              exact And.intro trivial (g60 false ⟨fun v => (by cases v), fun v => absurd v (by omega)⟩)
            · rw [e16', iZ_sub, iZ_eq (by constructor <;> omega) (by constructor <;> omega)] at u
              exact And.intro trivial (g60 true ⟨fun _ => (by omega), fun _ => rfl⟩)
          refine wp1_ok (by decide) OK_139 (cc := cd_139) rfl (stops := [30, 45]) (f := 30) ?_
          refine And.intro ((iZ_in (by constructor <;> omega)).mpr (by omega)) ?_
          rw [va]
          refine And.intro (fun _ => And.intro trivial hgo) (fun u => absurd rfl u)
        | succ q ihq =>
          intro j y4 y5 ej hy45
          have wj := wt.1 j (by omega)
          have va : gI m 32 240 (iZ ((offW w + j : Nat) : Int)).toNatClampNeg = iZ ((wW w).getD j 0) := by
            rw [iZ_clamp (by constructor <;> omega), show ((offW w + j : Nat) : Int).toNat = offW w + j by omega, hW _ (by omega), wj.1]
          refine wp1_ok (by decide) OK_139 (cc := cd_139) rfl (stops := [30, 45]) (f := 30) ?_
          refine And.intro ((iZ_in (by constructor <;> omega)).mpr (by omega)) ?_
          rw [va]
          refine And.intro (fun u => ?_) (fun _ => ?_)
          · rw [L0, iZ_eq (by constructor <;> omega) (by decide)] at u; omega
          refine And.intro trivial ?_
          rw [L1, iZ_add]
          exact ihq (j + 1) y4 y5 (by omega) hy45
      have z0 := zl (wW w).length 0 y4 y5 (by omega) (by
        rcases hy with ⟨_, a4, a5⟩ | ⟨_, b4, b5, _, a4, a5⟩
        · exact Or.inl ⟨a4, a5⟩
        · exact Or.inr ⟨b4, b5, a4, a5⟩)
      rcases hy with ⟨rfl, rfl, rfl⟩ | ⟨b3, b4, b5, rfl, rfl, rfl⟩
      · refine wp1_ok (by decide) OK_139 (cc := cd_139) rfl (stops := [22, 30]) (f := 30) ?_
        refine And.intro (fun u => ?_) (fun _ => ?_)
        · rw [L21, iZ_le (by decide) (by constructor <;> omega)] at u; omega
        exact And.intro trivial z0
      · refine wp1_ok (by decide) OK_139 (cc := cd_139) rfl (stops := [22, 30]) (f := 30) ?_
        refine And.intro (fun u => ?_) (fun _ => ?_)
        · rw [L21, iZ_le (by decide) (by constructor <;> omega)] at u; omega
        exact And.intro trivial z0
  exact outer 21 0 none none none rfl (Or.inl ⟨rfl, rfl, rfl⟩) (fun v hv => by omega)
end MWORD
