section PURE
variable {md : Bool} {i pc n r1 r2 r3 w : Nat} {c : Int32} {cl : Int64} {ts : List (Int32 × Nat)} {sl : List (Option SV)} {st : List SV} {m : Mem} {Q : Option SV → Mem → Prop} {K : Kt}
theorem x_istore {j : Nat} (hd : decode (mB i) pc = .ok (.istore j, n - pc)) (hn : okN pc (.istore j) n = true) (hi : okI i pc (.istore j) r1 r2 r3 w c cl ts = true) (hK : ∀ p l s m', K p l s m' → smE md i p l s m' Q) (h : st1 md i (pc, .istore j, n, r1, r2, r3, w, c, cl, ts) sl st m Q K) : smE md i pc sl st m Q := by
  obtain rfl : n = pc + 2 := Nat.eq_of_beq_eq_true hn
  rw [Nat.add_sub_cancel_left] at hd
  simp only [st1, sStore] at h
  split at h <;> first | exact h.elim | skip
  all_goals first | (rename_i e1; cases e1; done) | skip
  all_goals
    rename_i x s0 e1
    obtain ⟨sl', h1, g2, g3, g4⟩ := stL_spec h
    refine E_pure (hK _ _ _ _ h1) (fun a b => ⟨okL_st a (okS_cons.mp b).1 g4, (okS_cons.mp b).2⟩) ?_
    intro l C p e R s mm args below meth cc H locs cells slots ls Qf aL aS aM aF hF hSt hH hS hL hrk hlq k
    obtain ⟨hx, hb, hml, hr, hlk, hnm, hown, hts⟩ := hF
    exact lv_istore hx hb hd hL.has (by have := hL.2.2.1; omega) rfl (fun ls1 h1 => k ls1 (LR_st hSt.sq hL g3 g4 h1))
theorem x_istore_n {j : Fin 4} (hd : decode (mB i) pc = .ok (.istore_n j, n - pc)) (hn : okN pc (.istore_n j) n = true) (hi : okI i pc (.istore_n j) r1 r2 r3 w c cl ts = true) (hK : ∀ p l s m', K p l s m' → smE md i p l s m' Q) (h : st1 md i (pc, .istore_n j, n, r1, r2, r3, w, c, cl, ts) sl st m Q K) : smE md i pc sl st m Q := by
  obtain rfl : n = pc + 1 := Nat.eq_of_beq_eq_true hn
  rw [Nat.add_sub_cancel_left] at hd
  simp only [st1, sStore] at h
  split at h <;> first | exact h.elim | skip
  all_goals first | (rename_i e1; cases e1; done) | skip
  all_goals
    rename_i x s0 e1
    obtain ⟨sl', h1, g2, g3, g4⟩ := stL_spec h
    refine E_pure (hK _ _ _ _ h1) (fun a b => ⟨okL_st a (okS_cons.mp b).1 g4, (okS_cons.mp b).2⟩) ?_
    intro l C p e R s mm args below meth cc H locs cells slots ls Qf aL aS aM aF hF hSt hH hS hL hrk hlq k
    obtain ⟨hx, hb, hml, hr, hlk, hnm, hown, hts⟩ := hF
    exact lv_istore_n hx hb hd rfl hL.has (by have := hL.2.2.1; omega) rfl (fun ls1 h1 => k ls1 (LR_st hSt.sq hL g3 g4 h1))
theorem x_astore {j : Nat} (hd : decode (mB i) pc = .ok (.astore j, n - pc)) (hn : okN pc (.astore j) n = true) (hi : okI i pc (.astore j) r1 r2 r3 w c cl ts = true) (hK : ∀ p l s m', K p l s m' → smE md i p l s m' Q) (h : st1 md i (pc, .astore j, n, r1, r2, r3, w, c, cl, ts) sl st m Q K) : smE md i pc sl st m Q := by
  obtain rfl : n = pc + 2 := Nat.eq_of_beq_eq_true hn
  rw [Nat.add_sub_cancel_left] at hd
  simp only [st1, sStore] at h
  split at h <;> first | exact h.elim | skip
  all_goals first | (rename_i e1; cases e1; done) | skip
  all_goals
    rename_i x s0 e1
    obtain ⟨sl', h1, g2, g3, g4⟩ := stL_spec h
    refine E_pure (hK _ _ _ _ h1) (fun a b => ⟨okL_st a (okS_cons.mp b).1 g4, (okS_cons.mp b).2⟩) ?_
    intro l C p e R s mm args below meth cc H locs cells slots ls Qf aL aS aM aF hF hSt hH hS hL hrk hlq k
    obtain ⟨hx, hb, hml, hr, hlk, hnm, hown, hts⟩ := hF
    have hj : j < mL i := by have := hL.2.2.1; omega
    have fin : ∀ ls1, lv_has ls1 (mL i) ((j, tv C (.inr (.inr x))) :: (elL C sl).filter (fun q => !(q.1 == j) && !(q.1 + 1 == j && q.2.category == 2))) → _ := fun ls1 h1 => k ls1 (LR_st hSt.sq hL g3 g4 h1)
    simp only [List.map_cons]
    match x, fin with
    | none, fin => exact lv_astoreN hx hb hd hL.has hj rfl fin
    | some a, fin =>
      simp only [tv] at fin ⊢
      by_cases ha : a.1 = 65
      · simp only [if_pos ha] at fin ⊢
        rcases hSt.sq with hz | ⟨q, hz⟩
        · simp only [hz] at fin ⊢
          exact lv_astoreN hx hb hd hL.has hj rfl fin
        · simp only [hz] at fin ⊢
          exact lv_astore hx hb hd hL.has hj rfl fin
      · simp only [if_neg ha] at fin ⊢
        exact lv_astore hx hb hd hL.has hj rfl fin
theorem x_astore_n {j : Fin 4} (hd : decode (mB i) pc = .ok (.astore_n j, n - pc)) (hn : okN pc (.astore_n j) n = true) (hi : okI i pc (.astore_n j) r1 r2 r3 w c cl ts = true) (hK : ∀ p l s m', K p l s m' → smE md i p l s m' Q) (h : st1 md i (pc, .astore_n j, n, r1, r2, r3, w, c, cl, ts) sl st m Q K) : smE md i pc sl st m Q := by
  obtain rfl : n = pc + 1 := Nat.eq_of_beq_eq_true hn
  rw [Nat.add_sub_cancel_left] at hd
  simp only [st1, sStore] at h
  split at h <;> first | exact h.elim | skip
  all_goals first | (rename_i e1; cases e1; done) | skip
  all_goals
    rename_i x s0 e1
    obtain ⟨sl', h1, g2, g3, g4⟩ := stL_spec h
    refine E_pure (hK _ _ _ _ h1) (fun a b => ⟨okL_st a (okS_cons.mp b).1 g4, (okS_cons.mp b).2⟩) ?_
    intro l C p e R s mm args below meth cc H locs cells slots ls Qf aL aS aM aF hF hSt hH hS hL hrk hlq k
    obtain ⟨hx, hb, hml, hr, hlk, hnm, hown, hts⟩ := hF
    have hj : j.val < mL i := by have := hL.2.2.1; omega
    have fin : ∀ ls1, lv_has ls1 (mL i) ((j.val, tv C (.inr (.inr x))) :: (elL C sl).filter (fun q => !(q.1 == j.val) && !(q.1 + 1 == j.val && q.2.category == 2))) → _ := fun ls1 h1 => k ls1 (LR_st hSt.sq hL g3 g4 h1)
    simp only [List.map_cons]
    match x, fin with
    | none, fin => exact lv_astore_nN hx hb hd rfl hL.has hj rfl fin
    | some a, fin =>
      simp only [tv] at fin ⊢
      by_cases ha : a.1 = 65
      · simp only [if_pos ha] at fin ⊢
        rcases hSt.sq with hz | ⟨q, hz⟩
        · simp only [hz] at fin ⊢
          exact lv_astore_nN hx hb hd rfl hL.has hj rfl fin
        · simp only [hz] at fin ⊢
          exact lv_astore_n hx hb hd rfl hL.has hj rfl fin
      · simp only [if_neg ha] at fin ⊢
        exact lv_astore_n hx hb hd rfl hL.has hj rfl fin
theorem x_lstore {j : Nat} (hd : decode (mB i) pc = .ok (.lstore j, n - pc)) (hn : okN pc (.lstore j) n = true) (hi : okI i pc (.lstore j) r1 r2 r3 w c cl ts = true) (hK : ∀ p l s m', K p l s m' → smE md i p l s m' Q) (h : st1 md i (pc, .lstore j, n, r1, r2, r3, w, c, cl, ts) sl st m Q K) : smE md i pc sl st m Q := by
  obtain rfl : n = pc + 2 := Nat.eq_of_beq_eq_true hn
  rw [Nat.add_sub_cancel_left] at hd
  simp only [st1, sStore] at h
  split at h <;> first | exact h.elim | skip
  all_goals first | (rename_i e1; cases e1; done) | skip
  all_goals
    rename_i x s0 e1
    obtain ⟨sl', h1, g2, g3, g4⟩ := stL_spec h
    obtain ⟨sl2, h2, k2, k3, k4⟩ := clL_spec h1
    refine E_pure (hK _ _ _ _ h2) (fun a b => ⟨fun v hv => ?_, (okS_cons.mp b).2⟩) ?_
    · obtain ⟨q, hq⟩ := List.mem_iff_getElem?.mp hv
      exact okL_st a (okS_cons.mp b).1 g4 v (List.mem_of_getElem? (k4 q v hq).2)
    intro l C p e R s mm args below meth cc H locs cells slots ls Qf aL aS aM aF hF hSt hH hS hL hrk hlq k
    obtain ⟨hx, hb, hml, hr, hlk, hnm, hown, hts⟩ := hF
    exact lv_lstore hx hb hd hL.has (by have := hL.2.2.1; omega) rfl (fun ls1 h1 => k ls1 (LR_st2 hSt.sq hL g3 g4 k3 k4 h1))
theorem x_lstore_n {j : Fin 4} (hd : decode (mB i) pc = .ok (.lstore_n j, n - pc)) (hn : okN pc (.lstore_n j) n = true) (hi : okI i pc (.lstore_n j) r1 r2 r3 w c cl ts = true) (hK : ∀ p l s m', K p l s m' → smE md i p l s m' Q) (h : st1 md i (pc, .lstore_n j, n, r1, r2, r3, w, c, cl, ts) sl st m Q K) : smE md i pc sl st m Q := by
  obtain rfl : n = pc + 1 := Nat.eq_of_beq_eq_true hn
  rw [Nat.add_sub_cancel_left] at hd
  simp only [st1, sStore] at h
  split at h <;> first | exact h.elim | skip
  all_goals first | (rename_i e1; cases e1; done) | skip
  all_goals
    rename_i x s0 e1
    obtain ⟨sl', h1, g2, g3, g4⟩ := stL_spec h
    obtain ⟨sl2, h2, k2, k3, k4⟩ := clL_spec h1
    refine E_pure (hK _ _ _ _ h2) (fun a b => ⟨fun v hv => ?_, (okS_cons.mp b).2⟩) ?_
    · obtain ⟨q, hq⟩ := List.mem_iff_getElem?.mp hv
      exact okL_st a (okS_cons.mp b).1 g4 v (List.mem_of_getElem? (k4 q v hq).2)
    intro l C p e R s mm args below meth cc H locs cells slots ls Qf aL aS aM aF hF hSt hH hS hL hrk hlq k
    obtain ⟨hx, hb, hml, hr, hlk, hnm, hown, hts⟩ := hF
    exact lv_lstore_n hx hb hd rfl hL.has (by have := hL.2.2.1; omega) rfl (fun ls1 h1 => k ls1 (LR_st2 hSt.sq hL g3 g4 k3 k4 h1))
theorem x_iinc {j : Nat} {v : Int} (hd : decode (mB i) pc = .ok (.iinc j v, n - pc)) (hn : okN pc (.iinc j v) n = true) (hi : okI i pc (.iinc j v) r1 r2 r3 w c cl ts = true) (hK : ∀ p l s m', K p l s m' → smE md i p l s m' Q) (h : st1 md i (pc, .iinc j v, n, r1, r2, r3, w, c, cl, ts) sl st m Q K) : smE md i pc sl st m Q := by
  obtain rfl : n = pc + 3 := Nat.eq_of_beq_eq_true hn
  rw [Nat.add_sub_cancel_left] at hd
  simp only [st1] at h
  split at h
  · rename_i x hv
    obtain ⟨sl', h1, g2, g3, g4⟩ := stL_spec h
    refine E_pure (hK _ _ _ _ h1) (fun a b => ⟨okL_st (v := vI (x + c)) a trivial g4, b⟩) ?_
    intro l C p e R s mm args below meth cc H locs cells slots ls Qf aL aS aM aF hF hSt hH hS hL hrk hlq k
    obtain ⟨hx, hb, hml, hr, hlk, hnm, hown, hts⟩ := hF
    have hm := elL_mem (C := C) (ldL_get hv)
    obtain ⟨q, hq⟩ := List.mem_iff_getElem?.mp hm
    exact lv_iinc hx hb hd hL.has hq (by rw [of_decide_eq_true hi]) (by have := hL.2.2.1; omega) rfl (fun ls1 h1 => k ls1 (LR_st hSt.sq hL g3 g4 h1))
  · exact h.elim
theorem x_dup (hd : decode (mB i) pc = .ok (.dup, n - pc)) (hn : okN pc (.dup) n = true) (hi : okI i pc (.dup) r1 r2 r3 w c cl ts = true) (hK : ∀ p l s m', K p l s m' → smE md i p l s m' Q) (h : st1 md i (pc, .dup, n, r1, r2, r3, w, c, cl, ts) sl st m Q K) : smE md i pc sl st m Q := by
  obtain rfl : n = pc + 1 := Nat.eq_of_beq_eq_true hn
  rw [Nat.add_sub_cancel_left] at hd
  simp only [st1, sDup] at h
  split at h
  · refine E_pure (hK _ _ _ _ h) (fun a b => ⟨a, okS_cons.mpr ⟨trivial, b⟩⟩) ?_
    intro l C p e R s mm args below meth cc H locs cells slots ls Qf aL aS aM aF hF hSt hH hS hL hrk hlq k
    obtain ⟨hx, hb, hml, hr, hlk, hnm, hown, hts⟩ := hF
    exact lv_dup hx hb hd rfl (k ls hL)
  · refine E_pure (hK _ _ _ _ h) (fun a b => ⟨a, okS_cons.mpr ⟨(okS_cons.mp b).1, b⟩⟩) ?_
    intro l C p e R s mm args below meth cc H locs cells slots ls Qf aL aS aM aF hF hSt hH hS hL hrk hlq k
    obtain ⟨hx, hb, hml, hr, hlk, hnm, hown, hts⟩ := hF
    exact lv_dup hx hb hd ((tv_cat hSt.sq _).trans rfl) (k ls hL)
  · exact h.elim
theorem x_pop (hd : decode (mB i) pc = .ok (.pop, n - pc)) (hn : okN pc (.pop) n = true) (hi : okI i pc (.pop) r1 r2 r3 w c cl ts = true) (hK : ∀ p l s m', K p l s m' → smE md i p l s m' Q) (h : st1 md i (pc, .pop, n, r1, r2, r3, w, c, cl, ts) sl st m Q K) : smE md i pc sl st m Q := by
  obtain rfl : n = pc + 1 := Nat.eq_of_beq_eq_true hn
  rw [Nat.add_sub_cancel_left] at hd
  simp only [st1, sPop] at h
  split at h
  · refine E_pure (hK _ _ _ _ h) (fun a b => ⟨a, (okS_cons.mp b).2⟩) ?_
    intro l C p e R s mm args below meth cc H locs cells slots ls Qf aL aS aM aF hF hSt hH hS hL hrk hlq k
    obtain ⟨hx, hb, hml, hr, hlk, hnm, hown, hts⟩ := hF
    exact lv_pop hx hb hd rfl (k ls hL)
  · refine E_pure (hK _ _ _ _ h) (fun a b => ⟨a, (okS_cons.mp b).2⟩) ?_
    intro l C p e R s mm args below meth cc H locs cells slots ls Qf aL aS aM aF hF hSt hH hS hL hrk hlq k
    obtain ⟨hx, hb, hml, hr, hlk, hnm, hown, hts⟩ := hF
    exact lv_pop hx hb hd ((tv_cat hSt.sq _).trans rfl) (k ls hL)
  · exact h.elim
theorem x_dup2 (hd : decode (mB i) pc = .ok (.dup2, n - pc)) (hn : okN pc (.dup2) n = true) (hi : okI i pc (.dup2) r1 r2 r3 w c cl ts = true) (hK : ∀ p l s m', K p l s m' → smE md i p l s m' Q) (h : st1 md i (pc, .dup2, n, r1, r2, r3, w, c, cl, ts) sl st m Q K) : smE md i pc sl st m Q := by
  obtain rfl : n = pc + 1 := Nat.eq_of_beq_eq_true hn
  rw [Nat.add_sub_cancel_left] at hd
  simp only [st1, sDup2] at h
  split at h
  · refine E_pure (hK _ _ _ _ h) (fun a b => ⟨a, okS_cons.mpr ⟨trivial, okS_cons.mpr ⟨(okS_cons.mp (okS_cons.mp b).2).1, b⟩⟩⟩) ?_
    intro l C p e R s mm args below meth cc H locs cells slots ls Qf aL aS aM aF hF hSt hH hS hL hrk hlq k
    obtain ⟨hx, hb, hml, hr, hlk, hnm, hown, hts⟩ := hF
    exact lv_dup2_11 hx hb hd rfl ((tv_cat hSt.sq _).trans rfl) (k ls hL)
  · exact h.elim
theorem x_dup_x1 (hd : decode (mB i) pc = .ok (.dup_x1, n - pc)) (hn : okN pc (.dup_x1) n = true) (hi : okI i pc (.dup_x1) r1 r2 r3 w c cl ts = true) (hK : ∀ p l s m', K p l s m' → smE md i p l s m' Q) (h : st1 md i (pc, .dup_x1, n, r1, r2, r3, w, c, cl, ts) sl st m Q K) : smE md i pc sl st m Q := by
  obtain rfl : n = pc + 1 := Nat.eq_of_beq_eq_true hn
  rw [Nat.add_sub_cancel_left] at hd
  simp only [st1, sDupX1] at h
  split at h
  · refine E_pure (hK _ _ _ _ h) (fun a b => ⟨a, okS_cons.mpr ⟨trivial, okS_cons.mpr ⟨(okS_cons.mp (okS_cons.mp b).2).1, okS_cons.mpr ⟨trivial, (okS_cons.mp (okS_cons.mp b).2).2⟩⟩⟩⟩) ?_
    intro l C p e R s mm args below meth cc H locs cells slots ls Qf aL aS aM aF hF hSt hH hS hL hrk hlq k
    obtain ⟨hx, hb, hml, hr, hlk, hnm, hown, hts⟩ := hF
    exact lv_dup_x1 hx hb hd rfl ((tv_cat hSt.sq _).trans rfl) (k ls hL)
  · exact h.elim
theorem x_goto {off : Int} (hd : decode (mB i) pc = .ok (.goto off, n - pc)) (hn : okN pc (.goto off) n = true) (hi : okI i pc (.goto off) r1 r2 r3 w c cl ts = true) (hK : ∀ p l s m', K p l s m' → smE md i p l s m' Q) (h : st1 md i (pc, .goto off, n, r1, r2, r3, w, c, cl, ts) sl st m Q K) : smE md i pc sl st m Q := by
  obtain rfl : n = pc + 3 := Nat.eq_of_beq_eq_true hn
  rw [Nat.add_sub_cancel_left] at hd
  refine E_pure (hK _ _ _ _ h) (fun a b => ⟨a, b⟩) ?_
  intro l C p e R s mm args below meth cc H locs cells slots ls Qf aL aS aM aF hF hSt hH hS hL hrk hlq k
  obtain ⟨hx, hb, hml, hr, hlk, hnm, hown, hts⟩ := hF
  exact lv_goto hx hb hd (of_decide_eq_true hi) (k ls hL)
theorem x_ifCond {q : ClassFile.Cond} {off : Int} (hd : decode (mB i) pc = .ok (.ifCond q off, n - pc)) (hn : okN pc (.ifCond q off) n = true) (hi : okI i pc (.ifCond q off) r1 r2 r3 w c cl ts = true) (hK : ∀ p l s m', K p l s m' → smE md i p l s m' Q) (h : st1 md i (pc, .ifCond q off, n, r1, r2, r3, w, c, cl, ts) sl st m Q K) : smE md i pc sl st m Q := by
  obtain rfl : n = pc + 3 := Nat.eq_of_beq_eq_true hn
  rw [Nat.add_sub_cancel_left] at hd
  simp only [st1, sIf] at h
  split at h
  · rename_i x s0
    cases q with
    | eq =>
      by_cases hc : x = 0
      · refine E_pure (hK _ _ _ _ (h.1 hc)) (fun a b => ⟨a, (okS_cons.mp b).2⟩) ?_
        intro l C p e R s mm args below meth cc H locs cells slots ls Qf aL aS aM aF hF hSt hH hS hL hrk hlq k
        obtain ⟨hx, hb, hml, hr, hlk, hnm, hown, hts⟩ := hF
        exact lv_if_eq hx hb hd (of_decide_eq_true hi) (fun _ => k ls hL) (fun z => absurd hc z)
      · refine E_pure (hK _ _ _ _ (h.2 hc)) (fun a b => ⟨a, (okS_cons.mp b).2⟩) ?_
        intro l C p e R s mm args below meth cc H locs cells slots ls Qf aL aS aM aF hF hSt hH hS hL hrk hlq k
        obtain ⟨hx, hb, hml, hr, hlk, hnm, hown, hts⟩ := hF
        exact lv_if_eq hx hb hd (of_decide_eq_true hi) (fun z => absurd z hc) (fun _ => k ls hL)
    | ne =>
      by_cases hc : x = 0
      · refine E_pure (hK _ _ _ _ (h.2 hc)) (fun a b => ⟨a, (okS_cons.mp b).2⟩) ?_
        intro l C p e R s mm args below meth cc H locs cells slots ls Qf aL aS aM aF hF hSt hH hS hL hrk hlq k
        obtain ⟨hx, hb, hml, hr, hlk, hnm, hown, hts⟩ := hF
        exact lv_if_ne hx hb hd (of_decide_eq_true hi) (fun z => absurd hc z) (fun _ => k ls hL)
      · refine E_pure (hK _ _ _ _ (h.1 hc)) (fun a b => ⟨a, (okS_cons.mp b).2⟩) ?_
        intro l C p e R s mm args below meth cc H locs cells slots ls Qf aL aS aM aF hF hSt hH hS hL hrk hlq k
        obtain ⟨hx, hb, hml, hr, hlk, hnm, hown, hts⟩ := hF
        exact lv_if_ne hx hb hd (of_decide_eq_true hi) (fun _ => k ls hL) (fun z => absurd z hc)
    | lt =>
      by_cases hc : x < 0
      · refine E_pure (hK _ _ _ _ (h.1 hc)) (fun a b => ⟨a, (okS_cons.mp b).2⟩) ?_
        intro l C p e R s mm args below meth cc H locs cells slots ls Qf aL aS aM aF hF hSt hH hS hL hrk hlq k
        obtain ⟨hx, hb, hml, hr, hlk, hnm, hown, hts⟩ := hF
        exact lv_if_lt hx hb hd (of_decide_eq_true hi) (fun _ => k ls hL) (fun z => absurd hc z)
      · refine E_pure (hK _ _ _ _ (h.2 hc)) (fun a b => ⟨a, (okS_cons.mp b).2⟩) ?_
        intro l C p e R s mm args below meth cc H locs cells slots ls Qf aL aS aM aF hF hSt hH hS hL hrk hlq k
        obtain ⟨hx, hb, hml, hr, hlk, hnm, hown, hts⟩ := hF
        exact lv_if_lt hx hb hd (of_decide_eq_true hi) (fun z => absurd z hc) (fun _ => k ls hL)
    | ge =>
      by_cases hc : 0 ≤ x
      · refine E_pure (hK _ _ _ _ (h.1 hc)) (fun a b => ⟨a, (okS_cons.mp b).2⟩) ?_
        intro l C p e R s mm args below meth cc H locs cells slots ls Qf aL aS aM aF hF hSt hH hS hL hrk hlq k
        obtain ⟨hx, hb, hml, hr, hlk, hnm, hown, hts⟩ := hF
        exact lv_if_ge hx hb hd (of_decide_eq_true hi) (fun _ => k ls hL) (fun z => absurd hc z)
      · refine E_pure (hK _ _ _ _ (h.2 hc)) (fun a b => ⟨a, (okS_cons.mp b).2⟩) ?_
        intro l C p e R s mm args below meth cc H locs cells slots ls Qf aL aS aM aF hF hSt hH hS hL hrk hlq k
        obtain ⟨hx, hb, hml, hr, hlk, hnm, hown, hts⟩ := hF
        exact lv_if_ge hx hb hd (of_decide_eq_true hi) (fun z => absurd z hc) (fun _ => k ls hL)
    | gt =>
      by_cases hc : 0 < x
      · refine E_pure (hK _ _ _ _ (h.1 hc)) (fun a b => ⟨a, (okS_cons.mp b).2⟩) ?_
        intro l C p e R s mm args below meth cc H locs cells slots ls Qf aL aS aM aF hF hSt hH hS hL hrk hlq k
        obtain ⟨hx, hb, hml, hr, hlk, hnm, hown, hts⟩ := hF
        exact lv_if_gt hx hb hd (of_decide_eq_true hi) (fun _ => k ls hL) (fun z => absurd hc z)
      · refine E_pure (hK _ _ _ _ (h.2 hc)) (fun a b => ⟨a, (okS_cons.mp b).2⟩) ?_
        intro l C p e R s mm args below meth cc H locs cells slots ls Qf aL aS aM aF hF hSt hH hS hL hrk hlq k
        obtain ⟨hx, hb, hml, hr, hlk, hnm, hown, hts⟩ := hF
        exact lv_if_gt hx hb hd (of_decide_eq_true hi) (fun z => absurd z hc) (fun _ => k ls hL)
    | le =>
      by_cases hc : x ≤ 0
      · refine E_pure (hK _ _ _ _ (h.1 hc)) (fun a b => ⟨a, (okS_cons.mp b).2⟩) ?_
        intro l C p e R s mm args below meth cc H locs cells slots ls Qf aL aS aM aF hF hSt hH hS hL hrk hlq k
        obtain ⟨hx, hb, hml, hr, hlk, hnm, hown, hts⟩ := hF
        exact lv_if_le hx hb hd (of_decide_eq_true hi) (fun _ => k ls hL) (fun z => absurd hc z)
      · refine E_pure (hK _ _ _ _ (h.2 hc)) (fun a b => ⟨a, (okS_cons.mp b).2⟩) ?_
        intro l C p e R s mm args below meth cc H locs cells slots ls Qf aL aS aM aF hF hSt hH hS hL hrk hlq k
        obtain ⟨hx, hb, hml, hr, hlk, hnm, hown, hts⟩ := hF
        exact lv_if_le hx hb hd (of_decide_eq_true hi) (fun z => absurd z hc) (fun _ => k ls hL)
  · exact h.elim
theorem x_if_icmp {q : ClassFile.Cond} {off : Int} (hd : decode (mB i) pc = .ok (.if_icmp q off, n - pc)) (hn : okN pc (.if_icmp q off) n = true) (hi : okI i pc (.if_icmp q off) r1 r2 r3 w c cl ts = true) (hK : ∀ p l s m', K p l s m' → smE md i p l s m' Q) (h : st1 md i (pc, .if_icmp q off, n, r1, r2, r3, w, c, cl, ts) sl st m Q K) : smE md i pc sl st m Q := by
  obtain rfl : n = pc + 3 := Nat.eq_of_beq_eq_true hn
  rw [Nat.add_sub_cancel_left] at hd
  simp only [st1, sCmp] at h
  split at h
  · rename_i y x s0
    cases q with
    | eq =>
      by_cases hc : x = y
      · refine E_pure (hK _ _ _ _ (h.1 hc)) (fun a b => ⟨a, (okS_cons.mp (okS_cons.mp b).2).2⟩) ?_
        intro l C p e R s mm args below meth cc H locs cells slots ls Qf aL aS aM aF hF hSt hH hS hL hrk hlq k
        obtain ⟨hx, hb, hml, hr, hlk, hnm, hown, hts⟩ := hF
        exact lv_icmp_eq hx hb hd (of_decide_eq_true hi) (fun _ => k ls hL) (fun z => absurd hc z)
      · refine E_pure (hK _ _ _ _ (h.2 hc)) (fun a b => ⟨a, (okS_cons.mp (okS_cons.mp b).2).2⟩) ?_
        intro l C p e R s mm args below meth cc H locs cells slots ls Qf aL aS aM aF hF hSt hH hS hL hrk hlq k
        obtain ⟨hx, hb, hml, hr, hlk, hnm, hown, hts⟩ := hF
        exact lv_icmp_eq hx hb hd (of_decide_eq_true hi) (fun z => absurd z hc) (fun _ => k ls hL)
    | ne =>
      by_cases hc : x = y
      · refine E_pure (hK _ _ _ _ (h.2 hc)) (fun a b => ⟨a, (okS_cons.mp (okS_cons.mp b).2).2⟩) ?_
        intro l C p e R s mm args below meth cc H locs cells slots ls Qf aL aS aM aF hF hSt hH hS hL hrk hlq k
        obtain ⟨hx, hb, hml, hr, hlk, hnm, hown, hts⟩ := hF
        exact lv_icmp_ne hx hb hd (of_decide_eq_true hi) (fun z => absurd hc z) (fun _ => k ls hL)
      · refine E_pure (hK _ _ _ _ (h.1 hc)) (fun a b => ⟨a, (okS_cons.mp (okS_cons.mp b).2).2⟩) ?_
        intro l C p e R s mm args below meth cc H locs cells slots ls Qf aL aS aM aF hF hSt hH hS hL hrk hlq k
        obtain ⟨hx, hb, hml, hr, hlk, hnm, hown, hts⟩ := hF
        exact lv_icmp_ne hx hb hd (of_decide_eq_true hi) (fun _ => k ls hL) (fun z => absurd z hc)
    | lt =>
      by_cases hc : x < y
      · refine E_pure (hK _ _ _ _ (h.1 hc)) (fun a b => ⟨a, (okS_cons.mp (okS_cons.mp b).2).2⟩) ?_
        intro l C p e R s mm args below meth cc H locs cells slots ls Qf aL aS aM aF hF hSt hH hS hL hrk hlq k
        obtain ⟨hx, hb, hml, hr, hlk, hnm, hown, hts⟩ := hF
        exact lv_icmp_lt hx hb hd (of_decide_eq_true hi) (fun _ => k ls hL) (fun z => absurd hc z)
      · refine E_pure (hK _ _ _ _ (h.2 hc)) (fun a b => ⟨a, (okS_cons.mp (okS_cons.mp b).2).2⟩) ?_
        intro l C p e R s mm args below meth cc H locs cells slots ls Qf aL aS aM aF hF hSt hH hS hL hrk hlq k
        obtain ⟨hx, hb, hml, hr, hlk, hnm, hown, hts⟩ := hF
        exact lv_icmp_lt hx hb hd (of_decide_eq_true hi) (fun z => absurd z hc) (fun _ => k ls hL)
    | ge =>
      by_cases hc : y ≤ x
      · refine E_pure (hK _ _ _ _ (h.1 hc)) (fun a b => ⟨a, (okS_cons.mp (okS_cons.mp b).2).2⟩) ?_
        intro l C p e R s mm args below meth cc H locs cells slots ls Qf aL aS aM aF hF hSt hH hS hL hrk hlq k
        obtain ⟨hx, hb, hml, hr, hlk, hnm, hown, hts⟩ := hF
        exact lv_icmp_ge hx hb hd (of_decide_eq_true hi) (fun _ => k ls hL) (fun z => absurd hc z)
      · refine E_pure (hK _ _ _ _ (h.2 hc)) (fun a b => ⟨a, (okS_cons.mp (okS_cons.mp b).2).2⟩) ?_
        intro l C p e R s mm args below meth cc H locs cells slots ls Qf aL aS aM aF hF hSt hH hS hL hrk hlq k
        obtain ⟨hx, hb, hml, hr, hlk, hnm, hown, hts⟩ := hF
        exact lv_icmp_ge hx hb hd (of_decide_eq_true hi) (fun z => absurd z hc) (fun _ => k ls hL)
    | gt =>
      by_cases hc : y < x
      · refine E_pure (hK _ _ _ _ (h.1 hc)) (fun a b => ⟨a, (okS_cons.mp (okS_cons.mp b).2).2⟩) ?_
        intro l C p e R s mm args below meth cc H locs cells slots ls Qf aL aS aM aF hF hSt hH hS hL hrk hlq k
        obtain ⟨hx, hb, hml, hr, hlk, hnm, hown, hts⟩ := hF
        exact lv_icmp_gt hx hb hd (of_decide_eq_true hi) (fun _ => k ls hL) (fun z => absurd hc z)
      · refine E_pure (hK _ _ _ _ (h.2 hc)) (fun a b => ⟨a, (okS_cons.mp (okS_cons.mp b).2).2⟩) ?_
        intro l C p e R s mm args below meth cc H locs cells slots ls Qf aL aS aM aF hF hSt hH hS hL hrk hlq k
        obtain ⟨hx, hb, hml, hr, hlk, hnm, hown, hts⟩ := hF
        exact lv_icmp_gt hx hb hd (of_decide_eq_true hi) (fun z => absurd z hc) (fun _ => k ls hL)
    | le =>
      by_cases hc : x ≤ y
      · refine E_pure (hK _ _ _ _ (h.1 hc)) (fun a b => ⟨a, (okS_cons.mp (okS_cons.mp b).2).2⟩) ?_
        intro l C p e R s mm args below meth cc H locs cells slots ls Qf aL aS aM aF hF hSt hH hS hL hrk hlq k
        obtain ⟨hx, hb, hml, hr, hlk, hnm, hown, hts⟩ := hF
        exact lv_icmp_le hx hb hd (of_decide_eq_true hi) (fun _ => k ls hL) (fun z => absurd hc z)
      · refine E_pure (hK _ _ _ _ (h.2 hc)) (fun a b => ⟨a, (okS_cons.mp (okS_cons.mp b).2).2⟩) ?_
        intro l C p e R s mm args below meth cc H locs cells slots ls Qf aL aS aM aF hF hSt hH hS hL hrk hlq k
        obtain ⟨hx, hb, hml, hr, hlk, hnm, hown, hts⟩ := hF
        exact lv_icmp_le hx hb hd (of_decide_eq_true hi) (fun z => absurd z hc) (fun _ => k ls hL)
  · exact h.elim
theorem x_ifnull {off : Int} (hd : decode (mB i) pc = .ok (.ifnull off, n - pc)) (hn : okN pc (.ifnull off) n = true) (hi : okI i pc (.ifnull off) r1 r2 r3 w c cl ts = true) (hK : ∀ p l s m', K p l s m' → smE md i p l s m' Q) (h : st1 md i (pc, .ifnull off, n, r1, r2, r3, w, c, cl, ts) sl st m Q K) : smE md i pc sl st m Q := by
  obtain rfl : n = pc + 3 := Nat.eq_of_beq_eq_true hn
  rw [Nat.add_sub_cancel_left] at hd
  simp only [st1, sNull] at h
  split at h
  · refine E_pure (hK _ _ _ _ h) (fun a b => ⟨a, (okS_cons.mp b).2⟩) ?_
    intro l C p e R s mm args below meth cc H locs cells slots ls Qf aL aS aM aF hF hSt hH hS hL hrk hlq k
    obtain ⟨hx, hb, hml, hr, hlk, hnm, hown, hts⟩ := hF
    exact lv_ifnullN hx hb hd (of_decide_eq_true hi) (k ls hL)
  · rename_i g c0 s0
    split at h
    · exact h.elim
    · rename_i h65
      have h65 : ¬ g = 65 := Nat.ne_of_beq_eq_false h65
      refine E_pure (hK _ _ _ _ h) (fun a b => ⟨a, (okS_cons.mp b).2⟩) ?_
      intro l C p e R s mm args below meth cc H locs cells slots ls Qf aL aS aM aF hF hSt hH hS hL hrk hlq k
      obtain ⟨hx, hb, hml, hr, hlk, hnm, hown, hts⟩ := hF
      simp only [List.map_cons, tv, if_neg h65]
      exact lv_ifnull hx hb hd (k ls hL)
  · exact h.elim
theorem x_ifnonnull {off : Int} (hd : decode (mB i) pc = .ok (.ifnonnull off, n - pc)) (hn : okN pc (.ifnonnull off) n = true) (hi : okI i pc (.ifnonnull off) r1 r2 r3 w c cl ts = true) (hK : ∀ p l s m', K p l s m' → smE md i p l s m' Q) (h : st1 md i (pc, .ifnonnull off, n, r1, r2, r3, w, c, cl, ts) sl st m Q K) : smE md i pc sl st m Q := by
  obtain rfl : n = pc + 3 := Nat.eq_of_beq_eq_true hn
  rw [Nat.add_sub_cancel_left] at hd
  simp only [st1, sNull] at h
  split at h
  · refine E_pure (hK _ _ _ _ h) (fun a b => ⟨a, (okS_cons.mp b).2⟩) ?_
    intro l C p e R s mm args below meth cc H locs cells slots ls Qf aL aS aM aF hF hSt hH hS hL hrk hlq k
    obtain ⟨hx, hb, hml, hr, hlk, hnm, hown, hts⟩ := hF
    exact lv_ifnonnullN hx hb hd (k ls hL)
  · rename_i g c0 s0
    split at h
    · exact h.elim
    · rename_i h65
      have h65 : ¬ g = 65 := Nat.ne_of_beq_eq_false h65
      refine E_pure (hK _ _ _ _ h) (fun a b => ⟨a, (okS_cons.mp b).2⟩) ?_
      intro l C p e R s mm args below meth cc H locs cells slots ls Qf aL aS aM aF hF hSt hH hS hL hrk hlq k
      obtain ⟨hx, hb, hml, hr, hlk, hnm, hown, hts⟩ := hF
      simp only [List.map_cons, tv, if_neg h65]
      exact lv_ifnonnull hx hb hd (of_decide_eq_true hi) (k ls hL)
  · exact h.elim
end PURE
