theorem fnd_mem {p : Nat} {e : Ent} : ∀ {l : List Ent}, fnd l p = some e → e ∈ l ∧ e.1 = p
  | [], h => by simp [fnd] at h
  | a :: l, h => by
    unfold fnd at h
    split at h
    · cases h
      exact ⟨List.mem_cons_self, Nat.eq_of_beq_eq_true (by assumption)⟩
    · exact ⟨List.mem_cons_of_mem _ (fnd_mem h).1, (fnd_mem h).2⟩
theorem fnd2_mem {p : Nat} {e : Ent} : ∀ {l : List (Nat × List Ent)}, fnd2 l p = some e → ∃ ch ∈ l, e ∈ ch.2 ∧ e.1 = p
  | [], h => by simp [fnd2] at h
  | (b, a) :: l, h => by
    unfold fnd2 at h
    split at h
    · obtain ⟨ch, h1, h2⟩ := fnd2_mem h
      exact ⟨ch, List.mem_cons_of_mem _ h1, h2⟩
    · exact ⟨(b, a), List.mem_cons_self, fnd_mem h⟩
/-- the rows of method i are checked -/
def OKm (i : Nat) : Prop := 1 ≤ rk i ∧ 40 ≤ lq i ∧ ∀ ch ∈ cd i, ∀ e ∈ ch.2, okE i e = true
theorem OKm_of {i : Nat} (h : okM1 i = true) : OKm i := by
  simp only [okM1, Bool.and_eq_true, List.all_eq_true] at h
  exact ⟨Nat.le_of_ble_eq_true h.1.1.2, Nat.le_of_ble_eq_true h.1.2, fun ch hc e he => h.2 ch hc e he⟩
theorem tw {w : Nat} {c : Cond} (h : tables_1[w]? = some c) (hg : goodWord c = true) : c ∈ GW := List.mem_filter.mpr ⟨List.mem_append_right _ (List.mem_append_right _ (List.mem_of_getElem? h)), hg⟩
theorem tn {w : Nat} {c : Cond} (h : tables_1[w]? = some c) (hg : isNest c = true) : c ∈ NW := List.mem_filter.mpr ⟨List.mem_of_getElem? h, hg⟩
theorem okS_cons {m : Mem} {v : SV} {s : List SV} : okS m (v :: s) ↔ okV m v ∧ okS m s := by
  simp [okS]
theorem okS_nil {m : Mem} : okS m [] := by simp [okS]
theorem ldL_get {sl : List (Option SV)} : ∀ {j : Nat} {v : SV}, ldL sl j = some v → sl[j]? = some (some v) := by
  induction sl with
  | nil => intro j v h; simp [ldL] at h
  | cons a l ih =>
    intro j v h
    cases j with
    | zero => simp only [ldL] at h; simp [h]
    | succ j => simp only [ldL] at h; simpa using ih h
theorem LR.get {C : Ctx} {nL : Nat} {ls : Array Slot} {sl : List (Option SV)} (h : LR C nL ls sl) {j : Nat} {v : SV} (hv : ldL sl j = some v) : ls[j]? = some (.val (tv C v)) := h.2.2.2 j v (ldL_get hv)
theorem okL.get {m : Mem} {sl : List (Option SV)} (h : okL m sl) {j : Nat} {v : SV} (hv : ldL sl j = some v) : okV m v := h v (List.mem_of_getElem? (ldL_get hv))
def isLg : SV → Bool
  | .inr (.inl _) => true
  | _ => false
theorem stL_spec {v : SV} : ∀ {sl : List (Option SV)} {j : Nat} {k : List (Option SV) → Prop}, stL sl j v k → ∃ sl', k sl' ∧ j < sl.length ∧ sl'.length = sl.length ∧ ∀ (q : Nat) (w : SV), sl'[q]? = some (some w) → (q = j ∧ w = v) ∨ (q ≠ j ∧ sl[q]? = some (some w) ∧ ¬ (q + 1 = j ∧ isLg w = true)) := by
  intro sl
  induction sl with
  | nil => intro j k h; exact h.elim
  | cons a l ih =>
    intro j k h
    cases j with
    | zero =>
      refine ⟨some v :: l, h, by simp, by simp, fun q w hq => ?_⟩
      cases q with
      | zero => left; simp at hq; exact ⟨rfl, hq.symm⟩
      | succ q => right; refine ⟨by omega, by simpa using hq, by omega⟩
    | succ n =>
      unfold stL at h
      split at h
      · refine ⟨_, h, by simp, by simp, fun q w hq => ?_⟩
        match q, hq with
        | 0, hq => right; simp at hq; subst hq; exact ⟨by omega, by simp, by simp [isLg]⟩
        | 1, hq => left; simp at hq; exact ⟨rfl, hq.symm⟩
        | q + 2, hq => right; refine ⟨by omega, by simpa using hq, by omega⟩
      · refine ⟨_, h, by simp, by simp, fun q w hq => ?_⟩
        match q, hq with
        | 0, hq => right; simp at hq; subst hq; exact ⟨by omega, by simp, by simp [isLg]⟩
        | 1, hq => left; simp at hq; exact ⟨rfl, hq.symm⟩
        | q + 2, hq => right; refine ⟨by omega, by simpa using hq, by omega⟩
      · refine ⟨_, h, by simp, by simp, fun q w hq => ?_⟩
        match q, hq with
        | 0, hq => simp at hq
        | 1, hq => left; simp at hq; exact ⟨rfl, hq.symm⟩
        | q + 2, hq => right; refine ⟨by omega, by simpa using hq, by omega⟩
      · refine ⟨_, h, by simp, by simp, fun q w hq => ?_⟩
        match q, hq with
        | 0, hq => simp at hq
        | 1, hq => left; simp at hq; exact ⟨rfl, hq.symm⟩
        | q + 2, hq => right; refine ⟨by omega, by simpa using hq, by omega⟩
      · exact h.elim
      · obtain ⟨sl', h1, h2, h3, h4⟩ := ih h
        refine ⟨_, h1, by simp; omega, by simp; omega, fun q w hq => ?_⟩
        cases q with
        | zero => right; simp at hq; exact ⟨by omega, by simpa using hq, by omega⟩
        | succ q =>
          rcases h4 q w (by simpa using hq) with ⟨e1, e2⟩ | ⟨e1, e2, e3⟩
          · left; exact ⟨by omega, e2⟩
          · right; exact ⟨by omega, by simpa using e2, fun z => e3 ⟨by omega, z.2⟩⟩
theorem clL_spec : ∀ {sl : List (Option SV)} {j : Nat} {k : List (Option SV) → Prop}, clL sl j k → ∃ sl', k sl' ∧ j < sl.length ∧ sl'.length = sl.length ∧ ∀ (q : Nat) (w : SV), sl'[q]? = some (some w) → q ≠ j ∧ sl[q]? = some (some w) := by
  intro sl
  induction sl with
  | nil => intro j k h; exact h.elim
  | cons a l ih =>
    intro j k h
    cases j with
    | zero =>
      refine ⟨none :: l, h, by simp, by simp, fun q w hq => ?_⟩
      cases q with
      | zero => simp at hq
      | succ q => exact ⟨by omega, by simpa using hq⟩
    | succ n =>
      unfold clL at h
      obtain ⟨sl', h1, h2, h3, h4⟩ := ih h
      refine ⟨_, h1, by simp; omega, by simp; omega, fun q w hq => ?_⟩
      cases q with
      | zero => exact ⟨by omega, by simpa using hq⟩
      | succ q =>
        obtain ⟨e1, e2⟩ := h4 q w (by simpa using hq)
        exact ⟨by omega, by simpa using e2⟩
def SQ (C : Ctx) : Prop := cSQ C = .null ∨ ∃ a, cSQ C = .ref a
theorem tv_cat {C : Ctx} (h : SQ C) (v : SV) : (tv C v).category = if isLg v = true then 2 else 1 := by
  match v with
  | .inl x => rfl
  | .inr (.inl x) => rfl
  | .inr (.inr none) => rfl
  | .inr (.inr (some a)) =>
    simp only [tv, isLg]
    split
    · rcases h with h | ⟨q, h⟩ <;> rw [h] <;> rfl
    · rfl
def elL (C : Ctx) (sl : List (Option SV)) : List (Nat × Value) := (List.range sl.length).filterMap (fun j => match sl[j]? with
  | some (some v) => some (j, tv C v)
  | _ => none)
theorem elL_mem {C : Ctx} {sl : List (Option SV)} {j : Nat} {v : SV} (h : sl[j]? = some (some v)) : (j, tv C v) ∈ elL C sl := by
  refine List.mem_filterMap.mpr ⟨j, List.mem_range.mpr ?_, by rw [h]⟩
  exact (List.getElem?_eq_some_iff.mp h).1
theorem LR.has {C : Ctx} {nL : Nat} {ls : Array Slot} {sl : List (Option SV)} (h : LR C nL ls sl) : lv_has ls nL (elL C sl) := by
  refine ⟨h.1, h.2.1, fun q hq => ?_⟩
  obtain ⟨j, -, hj⟩ := List.mem_filterMap.mp hq
  split at hj
  · rename_i v hv
    cases hj
    exact h.2.2.2 j v hv
  · cases hj
theorem LR_st {C : Ctx} (hq : SQ C) {nL : Nat} {ls ls' : Array Slot} {sl sl' : List (Option SV)} (hL : LR C nL ls sl) {j : Nat} {v : SV} (hl : sl'.length = sl.length) (hs : ∀ (q : Nat) (w : SV), sl'[q]? = some (some w) → (q = j ∧ w = v) ∨ (q ≠ j ∧ sl[q]? = some (some w) ∧ ¬ (q + 1 = j ∧ isLg w = true)))
    (h : lv_has ls' nL ((j, tv C v) :: (elL C sl).filter (fun q => !(q.1 == j) && !(q.1 + 1 == j && q.2.category == 2)))) : LR C nL ls' sl' := by
  refine ⟨h.1, h.2.1, hl.trans hL.2.2.1, fun q w hw => ?_⟩
  rcases hs q w hw with ⟨rfl, rfl⟩ | ⟨e1, e2, e3⟩
  · exact h.2.2 (q, tv C w) List.mem_cons_self
  · refine h.2.2 (q, tv C w) (List.mem_cons_of_mem _ (List.mem_filter.mpr ⟨elL_mem e2, ?_⟩))
    simp only [Bool.and_eq_true, Bool.not_eq_true', beq_eq_false_iff_ne, ne_eq, Bool.and_eq_false_iff, tv_cat hq]
    refine ⟨e1, ?_⟩
    by_cases z : isLg w = true
    · left; exact fun y => e3 ⟨y, z⟩
    · right; simp [z]
theorem LR_st2 {C : Ctx} (hq : SQ C) {nL : Nat} {ls ls' : Array Slot} {sl sl1 sl2 : List (Option SV)} (hL : LR C nL ls sl) {j : Nat} {v : SV} (hl : sl1.length = sl.length) (hs : ∀ (q : Nat) (w : SV), sl1[q]? = some (some w) → (q = j ∧ w = v) ∨ (q ≠ j ∧ sl[q]? = some (some w) ∧ ¬ (q + 1 = j ∧ isLg w = true)))
    (hl2 : sl2.length = sl1.length) (hs2 : ∀ (q : Nat) (w : SV), sl2[q]? = some (some w) → q ≠ j + 1 ∧ sl1[q]? = some (some w))
    (h : lv_has ls' nL ((j, tv C v) :: (elL C sl).filter (fun q => !(q.1 == j) && (!(q.1 == j + 1) && !(q.1 + 1 == j && q.2.category == 2))))) : LR C nL ls' sl2 := by
  refine ⟨h.1, h.2.1, hl2.trans (hl.trans hL.2.2.1), fun q w hw => ?_⟩
  obtain ⟨e0, hw⟩ := hs2 q w hw
  rcases hs q w hw with ⟨rfl, rfl⟩ | ⟨e1, e2, e3⟩
  · exact h.2.2 (q, tv C w) List.mem_cons_self
  · refine h.2.2 (q, tv C w) (List.mem_cons_of_mem _ (List.mem_filter.mpr ⟨elL_mem e2, ?_⟩))
    simp only [Bool.and_eq_true, Bool.not_eq_true', beq_eq_false_iff_ne, ne_eq, Bool.and_eq_false_iff, tv_cat hq]
    refine ⟨e1, e0, ?_⟩
    by_cases z : isLg w = true
    · left; exact fun y => e3 ⟨y, z⟩
    · right; simp [z]
theorem okL_st {m : Mem} {sl sl' : List (Option SV)} {j : Nat} {v : SV} (h : okL m sl) (hv : okV m v) (hs : ∀ (q : Nat) (w : SV), sl'[q]? = some (some w) → (q = j ∧ w = v) ∨ (q ≠ j ∧ sl[q]? = some (some w) ∧ ¬ (q + 1 = j ∧ isLg w = true))) : okL m sl' := by
  intro w hw
  obtain ⟨q, hq⟩ := List.mem_iff_getElem?.mp hw
  rcases hs q w hq with ⟨-, rfl⟩ | ⟨-, e2, -⟩
  · exact hv
  · exact h w (List.mem_of_getElem? e2)
theorem Sta.sq {C : Ctx} {L : Nat} {xs : Nat → Int32} {s : State} (h : Sta C L xs s) : SQ C := h.2.2.2.2.2.2.1.2
