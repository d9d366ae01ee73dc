section PURE
variable {md : Bool} {i pc n r1 r2 r3 w : Nat} {c : Int32} {cl : Int64} {ts : List (Int32 × Nat)} {sl : List (Option SV)} {st : List SV} {m : Mem} {Q : Option SV → Mem → Prop} {K : Kt}
theorem x_iadd (hd : decode (mB i) pc = .ok (.iadd, n - pc)) (hn : okN pc (.iadd) n = true) (hi : okI i pc (.iadd) r1 r2 r3 w c cl ts = true) (hK : ∀ p l s m', K p l s m' → smE md i p l s m' Q) (h : st1 md i (pc, .iadd, n, r1, r2, r3, w, c, cl, ts) sl st m Q K) : smE md i pc sl st m Q := by
  obtain rfl : n = pc + 1 := Nat.eq_of_beq_eq_true hn
  rw [Nat.add_sub_cancel_left] at hd
  simp only [st1] at h
  split at h
  · refine E_pure (hK _ _ _ _ h) (fun a b => ⟨a, okS_cons.mpr ⟨trivial, (okS_cons.mp (okS_cons.mp b).2).2⟩⟩) ?_
    intro l C p e R s mm args below meth cc H locs cells slots ls Qf aL aS aM aF hF hSt hH hS hL hrk hlq k
    obtain ⟨hx, hb, hml, hr, hlk, hnm, hown, hts⟩ := hF
    exact lv_iadd hx hb hd (k ls hL)
  · exact h.elim
theorem x_isub (hd : decode (mB i) pc = .ok (.isub, n - pc)) (hn : okN pc (.isub) n = true) (hi : okI i pc (.isub) r1 r2 r3 w c cl ts = true) (hK : ∀ p l s m', K p l s m' → smE md i p l s m' Q) (h : st1 md i (pc, .isub, n, r1, r2, r3, w, c, cl, ts) sl st m Q K) : smE md i pc sl st m Q := by
  obtain rfl : n = pc + 1 := Nat.eq_of_beq_eq_true hn
  rw [Nat.add_sub_cancel_left] at hd
  simp only [st1] at h
  split at h
  · refine E_pure (hK _ _ _ _ h) (fun a b => ⟨a, okS_cons.mpr ⟨trivial, (okS_cons.mp (okS_cons.mp b).2).2⟩⟩) ?_
    intro l C p e R s mm args below meth cc H locs cells slots ls Qf aL aS aM aF hF hSt hH hS hL hrk hlq k
    obtain ⟨hx, hb, hml, hr, hlk, hnm, hown, hts⟩ := hF
    exact lv_isub hx hb hd (k ls hL)
  · exact h.elim
theorem x_imul (hd : decode (mB i) pc = .ok (.imul, n - pc)) (hn : okN pc (.imul) n = true) (hi : okI i pc (.imul) r1 r2 r3 w c cl ts = true) (hK : ∀ p l s m', K p l s m' → smE md i p l s m' Q) (h : st1 md i (pc, .imul, n, r1, r2, r3, w, c, cl, ts) sl st m Q K) : smE md i pc sl st m Q := by
  obtain rfl : n = pc + 1 := Nat.eq_of_beq_eq_true hn
  rw [Nat.add_sub_cancel_left] at hd
  simp only [st1] at h
  split at h
  · refine E_pure (hK _ _ _ _ h) (fun a b => ⟨a, okS_cons.mpr ⟨trivial, (okS_cons.mp (okS_cons.mp b).2).2⟩⟩) ?_
    intro l C p e R s mm args below meth cc H locs cells slots ls Qf aL aS aM aF hF hSt hH hS hL hrk hlq k
    obtain ⟨hx, hb, hml, hr, hlk, hnm, hown, hts⟩ := hF
    exact lv_imul hx hb hd (k ls hL)
  · exact h.elim
theorem x_iand (hd : decode (mB i) pc = .ok (.iand, n - pc)) (hn : okN pc (.iand) n = true) (hi : okI i pc (.iand) r1 r2 r3 w c cl ts = true) (hK : ∀ p l s m', K p l s m' → smE md i p l s m' Q) (h : st1 md i (pc, .iand, n, r1, r2, r3, w, c, cl, ts) sl st m Q K) : smE md i pc sl st m Q := by
  obtain rfl : n = pc + 1 := Nat.eq_of_beq_eq_true hn
  rw [Nat.add_sub_cancel_left] at hd
  simp only [st1] at h
  split at h
  · refine E_pure (hK _ _ _ _ h) (fun a b => ⟨a, okS_cons.mpr ⟨trivial, (okS_cons.mp (okS_cons.mp b).2).2⟩⟩) ?_
    intro l C p e R s mm args below meth cc H locs cells slots ls Qf aL aS aM aF hF hSt hH hS hL hrk hlq k
    obtain ⟨hx, hb, hml, hr, hlk, hnm, hown, hts⟩ := hF
    exact lv_iand hx hb hd (k ls hL)
  · exact h.elim
theorem x_ixor (hd : decode (mB i) pc = .ok (.ixor, n - pc)) (hn : okN pc (.ixor) n = true) (hi : okI i pc (.ixor) r1 r2 r3 w c cl ts = true) (hK : ∀ p l s m', K p l s m' → smE md i p l s m' Q) (h : st1 md i (pc, .ixor, n, r1, r2, r3, w, c, cl, ts) sl st m Q K) : smE md i pc sl st m Q := by
  obtain rfl : n = pc + 1 := Nat.eq_of_beq_eq_true hn
  rw [Nat.add_sub_cancel_left] at hd
  simp only [st1] at h
  split at h
  · refine E_pure (hK _ _ _ _ h) (fun a b => ⟨a, okS_cons.mpr ⟨trivial, (okS_cons.mp (okS_cons.mp b).2).2⟩⟩) ?_
    intro l C p e R s mm args below meth cc H locs cells slots ls Qf aL aS aM aF hF hSt hH hS hL hrk hlq k
    obtain ⟨hx, hb, hml, hr, hlk, hnm, hown, hts⟩ := hF
    exact lv_ixor hx hb hd (k ls hL)
  · exact h.elim
theorem x_ishr (hd : decode (mB i) pc = .ok (.ishr, n - pc)) (hn : okN pc (.ishr) n = true) (hi : okI i pc (.ishr) r1 r2 r3 w c cl ts = true) (hK : ∀ p l s m', K p l s m' → smE md i p l s m' Q) (h : st1 md i (pc, .ishr, n, r1, r2, r3, w, c, cl, ts) sl st m Q K) : smE md i pc sl st m Q := by
  obtain rfl : n = pc + 1 := Nat.eq_of_beq_eq_true hn
  rw [Nat.add_sub_cancel_left] at hd
  simp only [st1] at h
  split at h
  · refine E_pure (hK _ _ _ _ h) (fun a b => ⟨a, okS_cons.mpr ⟨trivial, (okS_cons.mp (okS_cons.mp b).2).2⟩⟩) ?_
    intro l C p e R s mm args below meth cc H locs cells slots ls Qf aL aS aM aF hF hSt hH hS hL hrk hlq k
    obtain ⟨hx, hb, hml, hr, hlk, hnm, hown, hts⟩ := hF
    exact lv_ishr hx hb hd (k ls hL)
  · exact h.elim
theorem x_ishl (hd : decode (mB i) pc = .ok (.ishl, n - pc)) (hn : okN pc (.ishl) n = true) (hi : okI i pc (.ishl) r1 r2 r3 w c cl ts = true) (hK : ∀ p l s m', K p l s m' → smE md i p l s m' Q) (h : st1 md i (pc, .ishl, n, r1, r2, r3, w, c, cl, ts) sl st m Q K) : smE md i pc sl st m Q := by
  obtain rfl : n = pc + 1 := Nat.eq_of_beq_eq_true hn
  rw [Nat.add_sub_cancel_left] at hd
  simp only [st1] at h
  split at h
  · refine E_pure (hK _ _ _ _ h) (fun a b => ⟨a, okS_cons.mpr ⟨trivial, (okS_cons.mp (okS_cons.mp b).2).2⟩⟩) ?_
    intro l C p e R s mm args below meth cc H locs cells slots ls Qf aL aS aM aF hF hSt hH hS hL hrk hlq k
    obtain ⟨hx, hb, hml, hr, hlk, hnm, hown, hts⟩ := hF
    exact lv_ishl hx hb hd (k ls hL)
  · exact h.elim
theorem x_iushr (hd : decode (mB i) pc = .ok (.iushr, n - pc)) (hn : okN pc (.iushr) n = true) (hi : okI i pc (.iushr) r1 r2 r3 w c cl ts = true) (hK : ∀ p l s m', K p l s m' → smE md i p l s m' Q) (h : st1 md i (pc, .iushr, n, r1, r2, r3, w, c, cl, ts) sl st m Q K) : smE md i pc sl st m Q := by
  obtain rfl : n = pc + 1 := Nat.eq_of_beq_eq_true hn
  rw [Nat.add_sub_cancel_left] at hd
  simp only [st1] at h
  split at h
  · refine E_pure (hK _ _ _ _ h) (fun a b => ⟨a, okS_cons.mpr ⟨trivial, (okS_cons.mp (okS_cons.mp b).2).2⟩⟩) ?_
    intro l C p e R s mm args below meth cc H locs cells slots ls Qf aL aS aM aF hF hSt hH hS hL hrk hlq k
    obtain ⟨hx, hb, hml, hr, hlk, hnm, hown, hts⟩ := hF
    exact lv_iushr hx hb hd rfl (k ls hL)
  · exact h.elim
theorem x_idiv (hd : decode (mB i) pc = .ok (.idiv, n - pc)) (hn : okN pc (.idiv) n = true) (hi : okI i pc (.idiv) r1 r2 r3 w c cl ts = true) (hK : ∀ p l s m', K p l s m' → smE md i p l s m' Q) (h : st1 md i (pc, .idiv, n, r1, r2, r3, w, c, cl, ts) sl st m Q K) : smE md i pc sl st m Q := by
  obtain rfl : n = pc + 1 := Nat.eq_of_beq_eq_true hn
  rw [Nat.add_sub_cancel_left] at hd
  simp only [st1] at h
  split at h
  · refine E_pure (hK _ _ _ _ h.2) (fun a b => ⟨a, okS_cons.mpr ⟨trivial, (okS_cons.mp (okS_cons.mp b).2).2⟩⟩) ?_
    intro l C p e R s mm args below meth cc H locs cells slots ls Qf aL aS aM aF hF hSt hH hS hL hrk hlq k
    obtain ⟨hx, hb, hml, hr, hlk, hnm, hown, hts⟩ := hF
    exact lv_idiv hx hb hd h.1 (k ls hL)
  · exact h.elim
theorem x_irem (hd : decode (mB i) pc = .ok (.irem, n - pc)) (hn : okN pc (.irem) n = true) (hi : okI i pc (.irem) r1 r2 r3 w c cl ts = true) (hK : ∀ p l s m', K p l s m' → smE md i p l s m' Q) (h : st1 md i (pc, .irem, n, r1, r2, r3, w, c, cl, ts) sl st m Q K) : smE md i pc sl st m Q := by
  obtain rfl : n = pc + 1 := Nat.eq_of_beq_eq_true hn
  rw [Nat.add_sub_cancel_left] at hd
  simp only [st1] at h
  split at h
  · refine E_pure (hK _ _ _ _ h.2) (fun a b => ⟨a, okS_cons.mpr ⟨trivial, (okS_cons.mp (okS_cons.mp b).2).2⟩⟩) ?_
    intro l C p e R s mm args below meth cc H locs cells slots ls Qf aL aS aM aF hF hSt hH hS hL hrk hlq k
    obtain ⟨hx, hb, hml, hr, hlk, hnm, hown, hts⟩ := hF
    exact lv_irem hx hb hd h.1 (k ls hL)
  · exact h.elim
theorem x_ineg (hd : decode (mB i) pc = .ok (.ineg, n - pc)) (hn : okN pc (.ineg) n = true) (hi : okI i pc (.ineg) r1 r2 r3 w c cl ts = true) (hK : ∀ p l s m', K p l s m' → smE md i p l s m' Q) (h : st1 md i (pc, .ineg, n, r1, r2, r3, w, c, cl, ts) sl st m Q K) : smE md i pc sl st m Q := by
  obtain rfl : n = pc + 1 := Nat.eq_of_beq_eq_true hn
  rw [Nat.add_sub_cancel_left] at hd
  simp only [st1] at h
  split at h
  · refine E_pure (hK _ _ _ _ h) (fun a b => ⟨a, okS_cons.mpr ⟨trivial, (okS_cons.mp b).2⟩⟩) ?_
    intro l C p e R s mm args below meth cc H locs cells slots ls Qf aL aS aM aF hF hSt hH hS hL hrk hlq k
    obtain ⟨hx, hb, hml, hr, hlk, hnm, hown, hts⟩ := hF
    exact lv_ineg hx hb hd (k ls hL)
  · exact h.elim
theorem x_i2b (hd : decode (mB i) pc = .ok (.i2b, n - pc)) (hn : okN pc (.i2b) n = true) (hi : okI i pc (.i2b) r1 r2 r3 w c cl ts = true) (hK : ∀ p l s m', K p l s m' → smE md i p l s m' Q) (h : st1 md i (pc, .i2b, n, r1, r2, r3, w, c, cl, ts) sl st m Q K) : smE md i pc sl st m Q := by
  obtain rfl : n = pc + 1 := Nat.eq_of_beq_eq_true hn
  rw [Nat.add_sub_cancel_left] at hd
  simp only [st1] at h
  split at h
  · refine E_pure (hK _ _ _ _ h) (fun a b => ⟨a, okS_cons.mpr ⟨trivial, (okS_cons.mp b).2⟩⟩) ?_
    intro l C p e R s mm args below meth cc H locs cells slots ls Qf aL aS aM aF hF hSt hH hS hL hrk hlq k
    obtain ⟨hx, hb, hml, hr, hlk, hnm, hown, hts⟩ := hF
    exact lv_i2b hx hb hd rfl (k ls hL)
  · exact h.elim
theorem x_i2c (hd : decode (mB i) pc = .ok (.i2c, n - pc)) (hn : okN pc (.i2c) n = true) (hi : okI i pc (.i2c) r1 r2 r3 w c cl ts = true) (hK : ∀ p l s m', K p l s m' → smE md i p l s m' Q) (h : st1 md i (pc, .i2c, n, r1, r2, r3, w, c, cl, ts) sl st m Q K) : smE md i pc sl st m Q := by
  obtain rfl : n = pc + 1 := Nat.eq_of_beq_eq_true hn
  rw [Nat.add_sub_cancel_left] at hd
  simp only [st1] at h
  split at h
  · refine E_pure (hK _ _ _ _ h) (fun a b => ⟨a, okS_cons.mpr ⟨trivial, (okS_cons.mp b).2⟩⟩) ?_
    intro l C p e R s mm args below meth cc H locs cells slots ls Qf aL aS aM aF hF hSt hH hS hL hrk hlq k
    obtain ⟨hx, hb, hml, hr, hlk, hnm, hown, hts⟩ := hF
    exact lv_i2c hx hb hd rfl (k ls hL)
  · exact h.elim
theorem x_i2l (hd : decode (mB i) pc = .ok (.i2l, n - pc)) (hn : okN pc (.i2l) n = true) (hi : okI i pc (.i2l) r1 r2 r3 w c cl ts = true) (hK : ∀ p l s m', K p l s m' → smE md i p l s m' Q) (h : st1 md i (pc, .i2l, n, r1, r2, r3, w, c, cl, ts) sl st m Q K) : smE md i pc sl st m Q := by
  obtain rfl : n = pc + 1 := Nat.eq_of_beq_eq_true hn
  rw [Nat.add_sub_cancel_left] at hd
  simp only [st1] at h
  split at h
  · refine E_pure (hK _ _ _ _ h) (fun a b => ⟨a, okS_cons.mpr ⟨trivial, (okS_cons.mp b).2⟩⟩) ?_
    intro l C p e R s mm args below meth cc H locs cells slots ls Qf aL aS aM aF hF hSt hH hS hL hrk hlq k
    obtain ⟨hx, hb, hml, hr, hlk, hnm, hown, hts⟩ := hF
    exact lv_i2l hx hb hd rfl (k ls hL)
  · exact h.elim
theorem x_l2i (hd : decode (mB i) pc = .ok (.l2i, n - pc)) (hn : okN pc (.l2i) n = true) (hi : okI i pc (.l2i) r1 r2 r3 w c cl ts = true) (hK : ∀ p l s m', K p l s m' → smE md i p l s m' Q) (h : st1 md i (pc, .l2i, n, r1, r2, r3, w, c, cl, ts) sl st m Q K) : smE md i pc sl st m Q := by
  obtain rfl : n = pc + 1 := Nat.eq_of_beq_eq_true hn
  rw [Nat.add_sub_cancel_left] at hd
  simp only [st1] at h
  split at h
  · refine E_pure (hK _ _ _ _ h) (fun a b => ⟨a, okS_cons.mpr ⟨trivial, (okS_cons.mp b).2⟩⟩) ?_
    intro l C p e R s mm args below meth cc H locs cells slots ls Qf aL aS aM aF hF hSt hH hS hL hrk hlq k
    obtain ⟨hx, hb, hml, hr, hlk, hnm, hown, hts⟩ := hF
    exact lv_l2i hx hb hd rfl (k ls hL)
  · exact h.elim
theorem x_ladd (hd : decode (mB i) pc = .ok (.ladd, n - pc)) (hn : okN pc (.ladd) n = true) (hi : okI i pc (.ladd) r1 r2 r3 w c cl ts = true) (hK : ∀ p l s m', K p l s m' → smE md i p l s m' Q) (h : st1 md i (pc, .ladd, n, r1, r2, r3, w, c, cl, ts) sl st m Q K) : smE md i pc sl st m Q := by
  obtain rfl : n = pc + 1 := Nat.eq_of_beq_eq_true hn
  rw [Nat.add_sub_cancel_left] at hd
  simp only [st1] at h
  split at h
  · refine E_pure (hK _ _ _ _ h) (fun a b => ⟨a, okS_cons.mpr ⟨trivial, (okS_cons.mp (okS_cons.mp b).2).2⟩⟩) ?_
    intro l C p e R s mm args below meth cc H locs cells slots ls Qf aL aS aM aF hF hSt hH hS hL hrk hlq k
    obtain ⟨hx, hb, hml, hr, hlk, hnm, hown, hts⟩ := hF
    exact lv_ladd hx hb hd (k ls hL)
  · exact h.elim
theorem x_lmul (hd : decode (mB i) pc = .ok (.lmul, n - pc)) (hn : okN pc (.lmul) n = true) (hi : okI i pc (.lmul) r1 r2 r3 w c cl ts = true) (hK : ∀ p l s m', K p l s m' → smE md i p l s m' Q) (h : st1 md i (pc, .lmul, n, r1, r2, r3, w, c, cl, ts) sl st m Q K) : smE md i pc sl st m Q := by
  obtain rfl : n = pc + 1 := Nat.eq_of_beq_eq_true hn
  rw [Nat.add_sub_cancel_left] at hd
  simp only [st1] at h
  split at h
  · refine E_pure (hK _ _ _ _ h) (fun a b => ⟨a, okS_cons.mpr ⟨trivial, (okS_cons.mp (okS_cons.mp b).2).2⟩⟩) ?_
    intro l C p e R s mm args below meth cc H locs cells slots ls Qf aL aS aM aF hF hSt hH hS hL hrk hlq k
    obtain ⟨hx, hb, hml, hr, hlk, hnm, hown, hts⟩ := hF
    exact lv_lmul hx hb hd (k ls hL)
  · exact h.elim
theorem x_ldiv (hd : decode (mB i) pc = .ok (.ldiv, n - pc)) (hn : okN pc (.ldiv) n = true) (hi : okI i pc (.ldiv) r1 r2 r3 w c cl ts = true) (hK : ∀ p l s m', K p l s m' → smE md i p l s m' Q) (h : st1 md i (pc, .ldiv, n, r1, r2, r3, w, c, cl, ts) sl st m Q K) : smE md i pc sl st m Q := by
  obtain rfl : n = pc + 1 := Nat.eq_of_beq_eq_true hn
  rw [Nat.add_sub_cancel_left] at hd
  simp only [st1] at h
  split at h
  · refine E_pure (hK _ _ _ _ h.2) (fun a b => ⟨a, okS_cons.mpr ⟨trivial, (okS_cons.mp (okS_cons.mp b).2).2⟩⟩) ?_
    intro l C p e R s mm args below meth cc H locs cells slots ls Qf aL aS aM aF hF hSt hH hS hL hrk hlq k
    obtain ⟨hx, hb, hml, hr, hlk, hnm, hown, hts⟩ := hF
    exact lv_ldiv hx hb hd h.1 (k ls hL)
  · exact h.elim
theorem x_lcmp (hd : decode (mB i) pc = .ok (.lcmp, n - pc)) (hn : okN pc (.lcmp) n = true) (hi : okI i pc (.lcmp) r1 r2 r3 w c cl ts = true) (hK : ∀ p l s m', K p l s m' → smE md i p l s m' Q) (h : st1 md i (pc, .lcmp, n, r1, r2, r3, w, c, cl, ts) sl st m Q K) : smE md i pc sl st m Q := by
  obtain rfl : n = pc + 1 := Nat.eq_of_beq_eq_true hn
  rw [Nat.add_sub_cancel_left] at hd
  simp only [st1] at h
  split at h
  · refine E_pure (hK _ _ _ _ h) (fun a b => ⟨a, okS_cons.mpr ⟨trivial, (okS_cons.mp (okS_cons.mp b).2).2⟩⟩) ?_
    intro l C p e R s mm args below meth cc H locs cells slots ls Qf aL aS aM aF hF hSt hH hS hL hrk hlq k
    obtain ⟨hx, hb, hml, hr, hlk, hnm, hown, hts⟩ := hF
    exact W.lcmp hx hb hd (k ls hL)
  · exact h.elim
theorem x_iconst {v : Int} (hd : decode (mB i) pc = .ok (.iconst v, n - pc)) (hn : okN pc (.iconst v) n = true) (hi : okI i pc (.iconst v) r1 r2 r3 w c cl ts = true) (hK : ∀ p l s m', K p l s m' → smE md i p l s m' Q) (h : st1 md i (pc, .iconst v, n, r1, r2, r3, w, c, cl, ts) sl st m Q K) : smE md i pc sl st m Q := by
  obtain rfl : n = pc + 1 := Nat.eq_of_beq_eq_true hn
  rw [Nat.add_sub_cancel_left] at hd
  refine E_pure (hK _ _ _ _ h) (fun a b => ⟨a, okS_cons.mpr ⟨trivial, b⟩⟩) ?_
  intro l C p e R s mm args below meth cc H locs cells slots ls Qf aL aS aM aF hF hSt hH hS hL hrk hlq k
  obtain ⟨hx, hb, hml, hr, hlk, hnm, hown, hts⟩ := hF
  exact lv_iconst hx hb hd (of_decide_eq_true hi) (k ls hL)
theorem x_bipush {v : Int} (hd : decode (mB i) pc = .ok (.bipush v, n - pc)) (hn : okN pc (.bipush v) n = true) (hi : okI i pc (.bipush v) r1 r2 r3 w c cl ts = true) (hK : ∀ p l s m', K p l s m' → smE md i p l s m' Q) (h : st1 md i (pc, .bipush v, n, r1, r2, r3, w, c, cl, ts) sl st m Q K) : smE md i pc sl st m Q := by
  obtain rfl : n = pc + 2 := Nat.eq_of_beq_eq_true hn
  rw [Nat.add_sub_cancel_left] at hd
  refine E_pure (hK _ _ _ _ h) (fun a b => ⟨a, okS_cons.mpr ⟨trivial, b⟩⟩) ?_
  intro l C p e R s mm args below meth cc H locs cells slots ls Qf aL aS aM aF hF hSt hH hS hL hrk hlq k
  obtain ⟨hx, hb, hml, hr, hlk, hnm, hown, hts⟩ := hF
  exact lv_bipush hx hb hd (of_decide_eq_true hi) (k ls hL)
theorem x_sipush {v : Int} (hd : decode (mB i) pc = .ok (.sipush v, n - pc)) (hn : okN pc (.sipush v) n = true) (hi : okI i pc (.sipush v) r1 r2 r3 w c cl ts = true) (hK : ∀ p l s m', K p l s m' → smE md i p l s m' Q) (h : st1 md i (pc, .sipush v, n, r1, r2, r3, w, c, cl, ts) sl st m Q K) : smE md i pc sl st m Q := by
  obtain rfl : n = pc + 3 := Nat.eq_of_beq_eq_true hn
  rw [Nat.add_sub_cancel_left] at hd
  refine E_pure (hK _ _ _ _ h) (fun a b => ⟨a, okS_cons.mpr ⟨trivial, b⟩⟩) ?_
  intro l C p e R s mm args below meth cc H locs cells slots ls Qf aL aS aM aF hF hSt hH hS hL hrk hlq k
  obtain ⟨hx, hb, hml, hr, hlk, hnm, hown, hts⟩ := hF
  exact lv_sipush hx hb hd (of_decide_eq_true hi) (k ls hL)
theorem x_lconst {v : Fin 2} (hd : decode (mB i) pc = .ok (.lconst v, n - pc)) (hn : okN pc (.lconst v) n = true) (hi : okI i pc (.lconst v) r1 r2 r3 w c cl ts = true) (hK : ∀ p l s m', K p l s m' → smE md i p l s m' Q) (h : st1 md i (pc, .lconst v, n, r1, r2, r3, w, c, cl, ts) sl st m Q K) : smE md i pc sl st m Q := by
  obtain rfl : n = pc + 1 := Nat.eq_of_beq_eq_true hn
  rw [Nat.add_sub_cancel_left] at hd
  refine E_pure (hK _ _ _ _ h) (fun a b => ⟨a, okS_cons.mpr ⟨trivial, b⟩⟩) ?_
  intro l C p e R s mm args below meth cc H locs cells slots ls Qf aL aS aM aF hF hSt hH hS hL hrk hlq k
  obtain ⟨hx, hb, hml, hr, hlk, hnm, hown, hts⟩ := hF
  exact lv_lconst hx hb hd (of_decide_eq_true hi) (k ls hL)
theorem x_aconst_null (hd : decode (mB i) pc = .ok (.aconst_null, n - pc)) (hn : okN pc (.aconst_null) n = true) (hi : okI i pc (.aconst_null) r1 r2 r3 w c cl ts = true) (hK : ∀ p l s m', K p l s m' → smE md i p l s m' Q) (h : st1 md i (pc, .aconst_null, n, r1, r2, r3, w, c, cl, ts) sl st m Q K) : smE md i pc sl st m Q := by
  obtain rfl : n = pc + 1 := Nat.eq_of_beq_eq_true hn
  rw [Nat.add_sub_cancel_left] at hd
  refine E_pure (hK _ _ _ _ h) (fun a b => ⟨a, okS_cons.mpr ⟨trivial, b⟩⟩) ?_
  intro l C p e R s mm args below meth cc H locs cells slots ls Qf aL aS aM aF hF hSt hH hS hL hrk hlq k
  obtain ⟨hx, hb, hml, hr, hlk, hnm, hown, hts⟩ := hF
  exact lv_null hx hb hd (k ls hL)
theorem x_iload {j : Nat} (hd : decode (mB i) pc = .ok (.iload j, n - pc)) (hn : okN pc (.iload j) n = true) (hi : okI i pc (.iload j) r1 r2 r3 w c cl ts = true) (hK : ∀ p l s m', K p l s m' → smE md i p l s m' Q) (h : st1 md i (pc, .iload j, n, r1, r2, r3, w, c, cl, ts) sl st m Q K) : smE md i pc sl st m Q := by
  obtain rfl : n = pc + 2 := Nat.eq_of_beq_eq_true hn
  rw [Nat.add_sub_cancel_left] at hd
  simp only [st1, sLoad] at h
  split at h <;> first | exact h.elim | skip
  all_goals first | (rename_i e1 e2; cases e1; done) | skip
  all_goals
    rename_i x e1 hv
    refine E_pure (hK _ _ _ _ h) (fun a b => ⟨a, okS_cons.mpr ⟨a.get hv, b⟩⟩) ?_
    intro l C p e R s mm args below meth cc H locs cells slots ls Qf aL aS aM aF hF hSt hH hS hL hrk hlq k
    obtain ⟨hx, hb, hml, hr, hlk, hnm, hown, hts⟩ := hF
    exact lv_iload hx hb hd (hL.get hv) (k ls hL)
theorem x_iload_n {j : Fin 4} (hd : decode (mB i) pc = .ok (.iload_n j, n - pc)) (hn : okN pc (.iload_n j) n = true) (hi : okI i pc (.iload_n j) r1 r2 r3 w c cl ts = true) (hK : ∀ p l s m', K p l s m' → smE md i p l s m' Q) (h : st1 md i (pc, .iload_n j, n, r1, r2, r3, w, c, cl, ts) sl st m Q K) : smE md i pc sl st m Q := by
  obtain rfl : n = pc + 1 := Nat.eq_of_beq_eq_true hn
  rw [Nat.add_sub_cancel_left] at hd
  simp only [st1, sLoad] at h
  split at h <;> first | exact h.elim | skip
  all_goals first | (rename_i e1 e2; cases e1; done) | skip
  all_goals
    rename_i x e1 hv
    refine E_pure (hK _ _ _ _ h) (fun a b => ⟨a, okS_cons.mpr ⟨a.get hv, b⟩⟩) ?_
    intro l C p e R s mm args below meth cc H locs cells slots ls Qf aL aS aM aF hF hSt hH hS hL hrk hlq k
    obtain ⟨hx, hb, hml, hr, hlk, hnm, hown, hts⟩ := hF
    exact lv_iload_n hx hb hd rfl (hL.get hv) (k ls hL)
theorem x_lload {j : Nat} (hd : decode (mB i) pc = .ok (.lload j, n - pc)) (hn : okN pc (.lload j) n = true) (hi : okI i pc (.lload j) r1 r2 r3 w c cl ts = true) (hK : ∀ p l s m', K p l s m' → smE md i p l s m' Q) (h : st1 md i (pc, .lload j, n, r1, r2, r3, w, c, cl, ts) sl st m Q K) : smE md i pc sl st m Q := by
  obtain rfl : n = pc + 2 := Nat.eq_of_beq_eq_true hn
  rw [Nat.add_sub_cancel_left] at hd
  simp only [st1, sLoad] at h
  split at h <;> first | exact h.elim | skip
  all_goals first | (rename_i e1 e2; cases e1; done) | skip
  all_goals
    rename_i x e1 hv
    refine E_pure (hK _ _ _ _ h) (fun a b => ⟨a, okS_cons.mpr ⟨a.get hv, b⟩⟩) ?_
    intro l C p e R s mm args below meth cc H locs cells slots ls Qf aL aS aM aF hF hSt hH hS hL hrk hlq k
    obtain ⟨hx, hb, hml, hr, hlk, hnm, hown, hts⟩ := hF
    exact lv_lload hx hb hd (hL.get hv) (k ls hL)
theorem x_lload_n {j : Fin 4} (hd : decode (mB i) pc = .ok (.lload_n j, n - pc)) (hn : okN pc (.lload_n j) n = true) (hi : okI i pc (.lload_n j) r1 r2 r3 w c cl ts = true) (hK : ∀ p l s m', K p l s m' → smE md i p l s m' Q) (h : st1 md i (pc, .lload_n j, n, r1, r2, r3, w, c, cl, ts) sl st m Q K) : smE md i pc sl st m Q := by
  obtain rfl : n = pc + 1 := Nat.eq_of_beq_eq_true hn
  rw [Nat.add_sub_cancel_left] at hd
  simp only [st1, sLoad] at h
  split at h <;> first | exact h.elim | skip
  all_goals first | (rename_i e1 e2; cases e1; done) | skip
  all_goals
    rename_i x e1 hv
    refine E_pure (hK _ _ _ _ h) (fun a b => ⟨a, okS_cons.mpr ⟨a.get hv, b⟩⟩) ?_
    intro l C p e R s mm args below meth cc H locs cells slots ls Qf aL aS aM aF hF hSt hH hS hL hrk hlq k
    obtain ⟨hx, hb, hml, hr, hlk, hnm, hown, hts⟩ := hF
    exact lv_lload_n hx hb hd rfl (hL.get hv) (k ls hL)
theorem x_aload {j : Nat} (hd : decode (mB i) pc = .ok (.aload j, n - pc)) (hn : okN pc (.aload j) n = true) (hi : okI i pc (.aload j) r1 r2 r3 w c cl ts = true) (hK : ∀ p l s m', K p l s m' → smE md i p l s m' Q) (h : st1 md i (pc, .aload j, n, r1, r2, r3, w, c, cl, ts) sl st m Q K) : smE md i pc sl st m Q := by
  obtain rfl : n = pc + 2 := Nat.eq_of_beq_eq_true hn
  rw [Nat.add_sub_cancel_left] at hd
  simp only [st1, sLoad] at h
  split at h <;> first | exact h.elim | skip
  all_goals first | (rename_i e1 e2; cases e1; done) | skip
  all_goals
    rename_i x e1 hv
    refine E_pure (hK _ _ _ _ h) (fun a b => ⟨a, okS_cons.mpr ⟨a.get hv, b⟩⟩) ?_
    intro l C p e R s mm args below meth cc H locs cells slots ls Qf aL aS aM aF hF hSt hH hS hL hrk hlq k
    obtain ⟨hx, hb, hml, hr, hlk, hnm, hown, hts⟩ := hF
    match x, hL, k with
    | none, hL, k => exact lv_aloadN hx hb hd (hL.get hv) (k ls hL)
    | some a, hL, k =>
      have hg := hL.get hv
      have k := k ls hL
      simp only [List.map_cons, tv] at hg k
      by_cases ha : a.1 = 65
      · rw [if_pos ha] at hg k
        rcases hSt.sq with hz | ⟨q, hz⟩
        · rw [hz] at hg k
          exact lv_aloadN hx hb hd hg k
        · rw [hz] at hg k
          exact lv_aload hx hb hd hg k
      · rw [if_neg ha] at hg k
        exact lv_aload hx hb hd hg k
theorem x_aload_n {j : Fin 4} (hd : decode (mB i) pc = .ok (.aload_n j, n - pc)) (hn : okN pc (.aload_n j) n = true) (hi : okI i pc (.aload_n j) r1 r2 r3 w c cl ts = true) (hK : ∀ p l s m', K p l s m' → smE md i p l s m' Q) (h : st1 md i (pc, .aload_n j, n, r1, r2, r3, w, c, cl, ts) sl st m Q K) : smE md i pc sl st m Q := by
  obtain rfl : n = pc + 1 := Nat.eq_of_beq_eq_true hn
  rw [Nat.add_sub_cancel_left] at hd
  simp only [st1, sLoad] at h
  split at h <;> first | exact h.elim | skip
  all_goals first | (rename_i e1 e2; cases e1; done) | skip
  all_goals
    rename_i x e1 hv
    refine E_pure (hK _ _ _ _ h) (fun a b => ⟨a, okS_cons.mpr ⟨a.get hv, b⟩⟩) ?_
    intro l C p e R s mm args below meth cc H locs cells slots ls Qf aL aS aM aF hF hSt hH hS hL hrk hlq k
    obtain ⟨hx, hb, hml, hr, hlk, hnm, hown, hts⟩ := hF
    match x, hL, k with
    | none, hL, k => exact lv_aload_nN hx hb hd rfl (hL.get hv) (k ls hL)
    | some a, hL, k =>
      have hg := hL.get hv
      have k := k ls hL
      simp only [List.map_cons, tv] at hg k
      by_cases ha : a.1 = 65
      · rw [if_pos ha] at hg k
        rcases hSt.sq with hz | ⟨q, hz⟩
        · rw [hz] at hg k
          exact lv_aload_nN hx hb hd rfl hg k
        · rw [hz] at hg k
          exact lv_aload_n hx hb hd rfl hg k
      · rw [if_neg ha] at hg k
        exact lv_aload_n hx hb hd rfl hg k
end PURE
