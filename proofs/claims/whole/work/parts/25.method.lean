theorem enL_len {C : Ctx} (hq : SQ C) : ∀ (as : List SV), (enL as).length = (lg_sl (as.map (tv C))).length
  | [] => rfl
  | .inl x :: as => by
    have := enL_len hq as
    simp only [enL, List.map_cons, lg_sl, List.flatMap_cons, List.length_append, List.length_cons] at this ⊢
    rw [this]; simp [tv, Value.category]; omega
  | .inr (.inl x) :: as => by
    have := enL_len hq as
    simp only [enL, List.map_cons, lg_sl, List.flatMap_cons, List.length_append, List.length_cons] at this ⊢
    rw [this]; simp [tv, Value.category]; omega
  | .inr (.inr r) :: as => by
    have := enL_len hq as
    have hc : (tv C (.inr (.inr r))).category = 1 := (tv_cat hq _).trans rfl
    simp only [enL, List.map_cons, lg_sl, List.flatMap_cons, List.length_append, List.length_cons] at this ⊢
    rw [this, hc]; simp; omega
theorem LR_entry {C : Ctx} (hq : SQ C) {nL : Nat} {as : List SV} {ls : Array Slot} (hl : (enL as).length ≤ nL) (h : lv_has ls nL (lv_args 0 (as.map (tv C)))) : LR C nL ls (entL nL as) := by
  refine ⟨h.1, h.2.1, by simp [entL]; omega, fun j v hj => ?_⟩
  have hj : (enL as)[j]? = some (some v) := by
    unfold entL at hj
    by_cases hlt : j < (enL as).length
    · rw [List.getElem?_append_left hlt] at hj; exact hj
    · rw [List.getElem?_append_right (by omega)] at hj
      have := List.mem_of_getElem? hj
      exact absurd (List.eq_of_mem_replicate this) (by simp)
  have := enL_args hq as 0 j v hj
  rw [Nat.zero_add] at this
  exact h.2.2 _ this
/-- a method's contract, out of the walk of its body -/
theorem smC_of {md : Bool} {y : Nat} {as : List SV} {m : Mem} {K : Option SV → Mem → Prop} {sl : List (Option SV)} (h282 : y < 282) (hsl : entL (mL y) as = sl) (hlen : (enL as).length ≤ mL y) (h : smE md y 0 sl [] m K) : smC md y as m K := by
  subst hsl
  intro h1 h2 h3
  obtain ⟨v, M', hK, hx, hv, hM, hF, hG⟩ := h (enL_okL h1) okS_nil h2 h3
  refine ⟨v, M', hK, hx, hv, hM, hF, ?_⟩
  intro l C
  refine va_MetF (cc := mB y) (maxL := mL y) (ret := mR y) (plain_ok y h282) rfl ?_
  intro p e s m' args below meth c s₁ B hml hP
  obtain ⟨rfl, hSt, hH⟩ := hP
  have hts := atoms_spec (ws := mW y) B.pre
  have hl := lv_entry (as.map (tv C)) (n := mL y) (by rw [← enL_len hSt.sq]; exact hlen)
  rw [lg_entry_eq]
  generalize (lg_sl (as.map (tv C)) ++ List.replicate (mL y - (lg_sl (as.map (tv C))).length) Slot.unset).toArray = ls at hl ⊢
  have hg := hG l C p e (rmY y m M') s m' (as.map (tv C)).toArray below meth c s.heap [] 0 0 ls ⟨B.exec, B.bytes, hml, B.returns, B.notSynchronized, (name_of_methodNamed B.named B.method).1, findClass_of_methodNamed B.named, fun w hw => hts w (List.mem_cons_of_mem _ hw)⟩ hSt hH va_S.rf (LR_entry hSt.sq hlen hl) (by rw [Nat.zero_add]; exact Nat.le_refl _) (by rw [Nat.zero_add]; exact Nat.le_refl _) (Nat.le_refl _) (Nat.le_refl _)
  rw [Nat.zero_add, Nat.zero_add] at hg
  exact hg
/-- the same, by the walk's own function -/
theorem smC_wp {md : Bool} {y : Nat} {as : List SV} {m : Mem} {K : Option SV → Mem → Prop} (sl : List (Option SV)) (cc : List (Nat × List Ent)) (stops : List Nat) (f : Nat) (hOK : OKm y) (h282 : y < 282) (hcc : cd y = cc) (hsl : entL (mL y) as = sl) (hlen : (enL as).length ≤ mL y) (h : wp md y cc stops K f 0 sl [] m) : smC md y as m K :=
  smC_of h282 hsl hlen (wp_ok h282 hOK hcc f 0 sl [] m h)
/-- an answer of a kind, for a contract's use -/
theorem smC_mono {md : Bool} {y : Nat} {as : List SV} {m : Mem} {K K' : Option SV → Mem → Prop} (h : smC md y as m K) (hk : ∀ v m', K v m' → K' v m') : smC md y as m K' := by
  intro h1 h2 h3
  obtain ⟨v, M', hK, r⟩ := h h1 h2 h3
  exact ⟨v, M', hk v M' hK, r⟩
theorem smE_mono {md : Bool} {i pc : Nat} {sl : List (Option SV)} {st : List SV} {m : Mem} {Q Q' : Option SV → Mem → Prop} (h : smE md i pc sl st m Q) (hk : ∀ v m', Q v m' → Q' v m') : smE md i pc sl st m Q' := by
  intro h1 h2 h3 h4
  obtain ⟨v, M', hK, r⟩ := h h1 h2 h3 h4
  exact ⟨v, M', hk v M' hK, r⟩
