theorem sp_ldcSw {p : Program} {l : Launch} {e : Env} {R : Room} {s : State} {m : MethodId} {args : Array Value} {below : List Frame} {meth : Method} {c : Code} {H : Heap} {locs : List Loc} {cells slots : Nat} {Q : State → Prop} {cc : ByteArray} {pc : Nat} {ls : Array Slot} {rest : List Value} (hexec : p.tables.exec = Jvm.exec) (hb : c.code = cc) {own tx : String} {index q : Nat} (hown : s.vm.findClass own = some m.cls) (hZ : vk_R own index tx q s) (hdg : decode cc pc = .ok (.ldc_w index, 3))
    (k : W p l e R s m args below meth c H locs cells slots Q (F0 m (pc + 3) ls (.ref q :: rest))) : W p l e R s m args below meth c H locs cells slots Q (F0 m pc ls rest) := by
  intro T hT X
  obtain ⟨t, a1, b1⟩ := k T hT X
  exact ⟨t, X.ldcStringW hexec hown (text := tx) (a := q) hZ.1 hZ.2 (g := F0 m pc ls rest) rfl (by rw [hb]; exact hdg) t a1, b1⟩
theorem tsw_get {x : Int32} {k : Nat → Prop} {d : Prop} : ∀ {ts : List (Int32 × Nat)}, tsw x ts k d → ∀ (j : Nat) (q : Int32 × Nat), ts[j]? = some q → x = q.1 → k q.2
  | [], _, j, q, hj, _ => by simp at hj
  | a :: ts, h, 0, q, hj, hq => by
    simp at hj; subst hj
    exact h.1 hq
  | a :: ts, h, j + 1, q, hj, hq => tsw_get h.2 j q (by simpa using hj) hq
theorem tsw_def {x : Int32} {k : Nat → Prop} {d : Prop} : ∀ {ts : List (Int32 × Nat)}, tsw x ts k d → d
  | [], h => h
  | _ :: _, h => tsw_def h.2
theorem I32ext {x y : Int32} (h : x.toInt = y.toInt) : x = y := Int32.toInt_inj.mp h
theorem FR_dyn {k n t : Nat} (h : t = 20 ∨ t = 21 ∨ t = 22) : FR t k n = none := by rcases h with rfl | rfl | rfl <;> rfl
theorem okR_al {m : Mem} {t z : Nat} {a : Rf} (h : okR m a) : okR (al m t z) a := by
  refine ⟨fun q => ?_, h.2⟩
  obtain ⟨h1, h2⟩ := h.1 q
  refine ⟨Nat.lt_succ_of_lt h1, ?_⟩
  show (if a.2 = nX m then t else rgn m a.2) = a.1
  rw [if_neg (Nat.ne_of_lt h1)]; exact h2
theorem okR_new {m : Mem} {t z : Nat} (h : t < 60) : okR (al m t z) (t, nX m) := by
  refine ⟨fun _ => ⟨Nat.lt_succ_self _, ?_⟩, fun q => absurd q (Nat.not_le.mpr h)⟩
  show (if nX m = nX m then t else rgn m (nX m)) = t
  rw [if_pos rfl]
theorem Ext_al {m : Mem} {t z : Nat} : Ext m (al m t z) := by
  refine ⟨Nat.le_succ _, Nat.le_add_right _ _, fun a h => okR_al h, ?_, ?_⟩
  · show (if 0 = nX m then (if 63 < 60 then z else gL m 63 0) else gL m 63 0) = gL m 63 0
    split <;> rfl
  · funext k
    show (if 0 = nX m then (if 63 < 60 then 0 else gI m 63 0 k) else gI m 63 0 k) = gI m 63 0 k
    split <;> rfl
theorem okM_al {m : Mem} {t z : Nat} (h : okM m) (ht : t < 48) (hk : tk t < 9) : okM (al m t z) := by
  constructor
  · intro t' n' k' a ha
    have ha : (if n' = nX m then none else gP m t' n' k') = some a := ha
    split at ha
    · cases ha
    · exact okR_al (h.1 t' n' k' a ha)
  · intro n hn
    show (if n = nX m then t else rgn m n) < 48 ∧ tk (if n = nX m then t else rgn m n) < 9
    split
    · exact ⟨ht, hk⟩
    · rename_i hne
      exact h.2 n (by have : n < nX m + 1 := hn; omega)
theorem FR_al {m : Mem} {t z : Nat} (h : FRok m) (ht : t = 20 ∨ t = 21 ∨ t = 22) : FRok (al m t z) := by
  intro n k a hn hf h11
  have hf : FR (if n = nX m then t else rgn m n) k n = some a := hf
  have h11 : (if n = nX m then t else rgn m n) = 11 → k < 49 := h11
  show (if n = nX m then none else gP m (if n = nX m then t else rgn m n) n k) = some a
  by_cases hne : n = nX m
  · rw [if_pos hne, FR_dyn ht] at hf; cases hf
  · rw [if_neg hne] at hf h11 ⊢
    rw [if_neg hne]
    exact h n k a (by have : n < nX m + 1 := hn; omega) hf h11
theorem entC_al {C : Ctx} {m : Mem} {t z : Nat} (t' j : Nat) (h : j < nX m) : entC C (al m t z) t' j = entC C m t' j := by
  have hj : ¬ j = nX m := Nat.ne_of_lt h
  have h1 : gI (al m t z) t' j = gI m t' j := by
    funext k
    show (if j = nX m then (if t' < 60 then 0 else gI m t' j k) else gI m t' j k) = _
    rw [if_neg hj]
  have h2 : gP (al m t z) t' j = gP m t' j := by
    funext k
    show (if j = nX m then none else gP m t' j k) = _
    rw [if_neg hj]
  have h3 : ln (al m t z) t' j = ln m t' j := by
    have e : gL (al m t z) t' j = gL m t' j := by
      show (if j = nX m then (if t' < 60 then z else gL m t' j) else gL m t' j) = _
      rw [if_neg hj]
    unfold ln
    rw [e]
  have h4 : fv C (al m t z) t' j = fv C m t' j := by
    funext q
    unfold fv
    rw [h1, h2]
  unfold entC
  rw [h1, h2, h3, h4]
theorem HR_al {C : Ctx} {m : Mem} {t z : Nat} {H H1 : Heap} (h : HR C m H) (ht : t < 48) (hk : tk t < 9) (hz : H1.size = H.size + 1) (ho : ∀ q : Nat, q < H.size → H1[q]? = H[q]?) (hn : va_at (cD C) vwCl (cB0 C + nX m, entC C (al m t z) t (nX m)) H1) : HR C (al m t z) H1 := by
  refine ⟨by rw [hz, h.1]; rfl, fun k q hq => ?_, okM_al h.2.2 ht hk⟩
  have hkx : k < nX (al m t z) := by have := (List.getElem?_eq_some_iff.mp hq).1; simpa [wsO] using this
  have hkx' : k < nX m + 1 := hkx
  rw [ws_at (m := al m t z) hkx] at hq
  cases hq
  show va_at (cD C) vwCl (cB0 C + k, entC C (al m t z) (if k = nX m then t else rgn m k) k) H1
  by_cases hne : k = nX m
  · subst hne
    rw [if_pos rfl]
    exact hn
  · rw [if_neg hne, entC_al _ k (by omega)]
    have hw := h.2.1 k _ (ws_at (by omega))
    exact hw.kept (ho _ hw.lt)
theorem va_S_al {A : Nat → Prop} {H0 H H1 : Heap} {locs : List Loc} (h : va_S A H0 H locs) (hz : H1.size = H.size + 1) (ho : ∀ q : Nat, q < H.size → H1[q]? = H[q]?) : va_S A H0 H1 locs :=
  ⟨by have := h.1; omega, fun q h1 h2 => (ho q (Nat.lt_of_lt_of_le h1 h.1)).trans (h.2.1 q h1 h2), h.2.2⟩
theorem dv_ok : ∀ c, c < 8 → ∀ k, k < nf c → defaultValue (tyT c k) = if ft c k = 3 then .null else .int 0 := by
  intro c hc k hk
  rcases ft_ty c hc k hk with ⟨a, b⟩ | ⟨a, b⟩ | ⟨a, b⟩ | ⟨a, b⟩
  · rw [a, b]; rfl
  · rw [a, b]; rfl
  · rw [a, b]; rfl
  · rw [a]
    cases h : tyT c k <;> rw [h] at b <;> first | (simp [refKind] at b; done) | rfl
section MISC
variable {md : Bool} {i pc n r1 r2 r3 w : Nat} {c : Int32} {cl : Int64} {ts : List (Int32 × Nat)} {sl : List (Option SV)} {st : List SV} {m : Mem} {Q : Option SV → Mem → Prop} {K : Kt}
theorem x_ldc2_w {idx : Nat} (hcn : cN (mO i) = (mN i).cls) (hd : decode (mB i) pc = .ok (.ldc2_w idx, n - pc)) (hn : okN pc (.ldc2_w idx) n = true) (hi : okI i pc (.ldc2_w idx) r1 r2 r3 w c cl ts = true) (hK : ∀ p l s m', K p l s m' → smE md i p l s m' Q) (h : st1 md i (pc, .ldc2_w idx, n, r1, r2, r3, w, c, cl, ts) sl st m Q K) : smE md i pc sl st m Q := by
  obtain rfl : n = pc + 3 := Nat.eq_of_beq_eq_true hn
  rw [Nat.add_sub_cancel_left] at hd
  simp only [okI, List.contains_iff_mem] at hi
  have hl := LT_ok _ hi
  refine E_pure (hK _ _ _ _ h) (fun a b => ⟨a, okS_cons.mpr ⟨trivial, b⟩⟩) ?_
  intro l C p e R s mm args below meth cc H locs cells slots ls Qf aL aS aM aF hF hSt hH hS hL hrk hlq k
  obtain ⟨hx, hb, hml, hr, hlk, hnm, hown, hts⟩ := hF
  simp only [LTok, hcn] at hl
  exact lv_ldc2 hx hb hown (hts _ (tw hl rfl)) hd (k ls hL)
theorem x_ldc {idx : Nat} (hcn : cN (mO i) = (mN i).cls) (hd : decode (mB i) pc = .ok (.ldc idx, n - pc)) (hn : okN pc (.ldc idx) n = true) (hi : okI i pc (.ldc idx) r1 r2 r3 w c cl ts = true) (hK : ∀ p l s m', K p l s m' → smE md i p l s m' Q) (h : st1 md i (pc, .ldc idx, n, r1, r2, r3, w, c, cl, ts) sl st m Q K) : smE md i pc sl st m Q := by
  obtain rfl : n = pc + 2 := Nat.eq_of_beq_eq_true hn
  rw [Nat.add_sub_cancel_left] at hd
  simp only [st1] at h
  simp only [okI] at hi
  split at h
  · simp only [List.contains_iff_mem] at hi
    have hl := KT_ok _ hi
    refine E_pure (hK _ _ _ _ h) (fun a b => ⟨a, okS_cons.mpr ⟨trivial, b⟩⟩) ?_
    intro l C p e R s mm args below meth cc H locs cells slots ls Qf aL aS aM aF hF hSt hH hS hL hrk hlq k
    obtain ⟨hx, hb, hml, hr, hlk, hnm, hown, hts⟩ := hF
    simp only [KTok, hcn] at hl
    exact lv_ldc hx hb hown (hts _ (tw hl rfl)) hd (k ls hL)
  · rename_i hne
    have hi : QT.contains (mO i, idx, r2) = true := by
      split at hi
      · exact absurd rfl hne
      · exact hi
    have hl := QT_ok _ (List.contains_iff_mem.mp hi)
    refine E_pure (hK _ _ _ _ h) (fun a b => ⟨a, okS_cons.mpr ⟨okR_mk61 hl.2.2, b⟩⟩) ?_
    intro l C p e R s mm args below meth cc H locs cells slots ls Qf aL aS aM aF hF hSt hH hS hL hrk hlq k
    obtain ⟨hx, hb, hml, hr, hlk, hnm, hown, hts⟩ := hF
    have hz := (hSt.2.2.2.2.2.2.2.1 r2 hl.2.2).2.2.2.2
    have k := k ls hL
    simp only [List.map_cons, tv_st (show 60 ≤ 61 by decide) (show 61 ≠ 65 by decide)] at k
    rw [hl.1, hl.2.1] at hz
    simp only [hcn] at hz
    exact va_ldcS hx hb hown hz hd k
theorem x_ldc_w {idx : Nat} (hcn : cN (mO i) = (mN i).cls) (hd : decode (mB i) pc = .ok (.ldc_w idx, n - pc)) (hn : okN pc (.ldc_w idx) n = true) (hi : okI i pc (.ldc_w idx) r1 r2 r3 w c cl ts = true) (hK : ∀ p l s m', K p l s m' → smE md i p l s m' Q) (h : st1 md i (pc, .ldc_w idx, n, r1, r2, r3, w, c, cl, ts) sl st m Q K) : smE md i pc sl st m Q := by
  obtain rfl : n = pc + 3 := Nat.eq_of_beq_eq_true hn
  rw [Nat.add_sub_cancel_left] at hd
  simp only [st1] at h
  simp only [okI] at hi
  simp only [Bool.and_eq_true, List.contains_iff_mem] at hi
  obtain rfl : r1 = 1 := Nat.eq_of_beq_eq_true hi.1
  have hl := QT_ok _ hi.2
  refine E_pure (hK _ _ _ _ h) (fun a b => ⟨a, okS_cons.mpr ⟨okR_mk61 hl.2.2, b⟩⟩) ?_
  intro l C p e R s mm args below meth cc H locs cells slots ls Qf aL aS aM aF hF hSt hH hS hL hrk hlq k
  obtain ⟨hx, hb, hml, hr, hlk, hnm, hown, hts⟩ := hF
  have hz := (hSt.2.2.2.2.2.2.2.1 r2 hl.2.2).2.2.2.2
  have k := k ls hL
  simp only [List.map_cons, tv_st (show 60 ≤ 61 by decide) (show 61 ≠ 65 by decide)] at k
  rw [hl.1, hl.2.1] at hz
  simp only [hcn] at hz
  exact sp_ldcSw hx hb hown hz hd k
theorem E_stat {idx : Nat} {v : SV} (hcn : cN (mO i) = (mN i).cls) (hd : decode (mB i) pc = .ok (.getstatic idx, 3)) (hst : STok (mO i, idx, r1, r2, w)) (hv : okV m v) (hz : ∀ (C : Ctx) (L : Nat) (xs : Nat → Int32) (s : State), Sta C L xs s → va_Z (sTk r1 r2).1 (sTk r1 r2).2.1 (sTk r1 r2).2.2 (tv C v) (cA C) s s.heap) (hE : smE md i (pc + 3) sl (v :: st) m Q) : smE md i pc sl st m Q := by
  refine E_pure hE (fun a b => ⟨a, okS_cons.mpr ⟨hv, b⟩⟩) ?_
  intro l C p e R s mm args below meth cc H locs cells slots ls Qf aL aS aM aF hF hSt hH hS hL hrk hlq k
  obtain ⟨hx, hb, hml, hr, hlk, hnm, hown, hts⟩ := hF
  rcases hst.1 with hl | hl
  · rw [hcn] at hl
    exact va_gets hx hb (hz C _ _ s hSt) hS hown (hts _ (tw hl rfl)) (fun _ z => z) hd (k ls hL)
  · rw [hcn] at hl
    exact va_getsN hx hb (hz C _ _ s hSt) hS hown (va_Nw.use rfl (hSt.2.1 _ (tn hl rfl))) (fun _ z => z) hd (k ls hL)
theorem x_getstatic {idx : Nat} (hcn : cN (mO i) = (mN i).cls) (hd : decode (mB i) pc = .ok (.getstatic idx, n - pc)) (hn : okN pc (.getstatic idx) n = true) (hi : okI i pc (.getstatic idx) r1 r2 r3 w c cl ts = true) (hK : ∀ p l s m', K p l s m' → smE md i p l s m' Q) (h : st1 md i (pc, .getstatic idx, n, r1, r2, r3, w, c, cl, ts) sl st m Q K) : smE md i pc sl st m Q := by
  obtain rfl : n = pc + 3 := Nat.eq_of_beq_eq_true hn
  rw [Nat.add_sub_cancel_left] at hd
  simp only [okI, List.contains_iff_mem] at hi
  have hst := ST_ok _ hi
  simp only [st1, sStat] at h
  have h2 := hst.2
  split at h
  · exact E_stat (v := vI 1) hcn hd hst trivial (fun C L xs s hs => hs.2.2.2.2.2.1) (hK _ _ _ _ h)
  · have hb : r2 < 11 := by omega
    exact E_stat (v := vR (some (60, r2))) hcn hd hst (okR_mk60 hb) (fun C L xs s hs => by rw [tv_st (by decide) (by decide)]; exact (hs.2.2.2.1 r2 hb).1) (hK _ _ _ _ h)
  · have hb : r2 < 2 := by omega
    exact E_stat (v := vR (some (64, r2))) hcn hd hst (okR_mk64 hb) (fun C L xs s hs => by rw [tv_st (by decide) (by decide)]; exact (hs.2.2.2.2.1 r2 hb).1) (hK _ _ _ _ h)
  · exact E_stat (v := vR (some (65, 0))) hcn hd hst okR_mk65 (fun C L xs s hs => hs.2.2.2.2.2.2.1.1) (hK _ _ _ _ h)
  · exact h.elim
theorem x_tableswitch {d lo hi : Int} {offs : Array Int} (hd : decode (mB i) pc = .ok (.tableswitch d lo hi offs, n - pc)) (hn : okN pc (.tableswitch d lo hi offs) n = true) (hi' : okI i pc (.tableswitch d lo hi offs) r1 r2 r3 w c cl ts = true) (hK : ∀ p l s m', K p l s m' → smE md i p l s m' Q) (h : st1 md i (pc, .tableswitch d lo hi offs, n, r1, r2, r3, w, c, cl, ts) sl st m Q K) : smE md i pc sl st m Q := by
  simp only [okI, Bool.and_eq_true, decide_eq_true_eq, List.all_eq_true] at hi'
  simp only [st1] at h
  split at h
  · rename_i x s0
    by_cases hin : x.toInt < lo ∨ hi < x.toInt
    · refine E_pure (hK _ _ _ _ (tsw_def h hin)) (fun a b => ⟨a, (okS_cons.mp b).2⟩) ?_
      intro l C p e R s mm args below meth cc H locs cells slots ls Qf aL aS aM aF hF hSt hH hS hL hrk hlq k
      obtain ⟨hx, hb, hml, hr, hlk, hnm, hown, hts⟩ := hF
      exact lv_tableOut hx hb hd hin (of_decide_eq_true hi'.1.1) (k ls hL)
    · have h1 : ¬ x.toInt < lo := fun z => hin (Or.inl z)
      have h2 : ¬ hi < x.toInt := fun z => hin (Or.inr z)
      have hj : (x.toInt - lo).toNat < ts.length := by have := hi'.1.2; omega
      have ha := hi'.2 _ (List.mem_range.mpr hj)
      split at ha
      · rename_i q off hq ho
        simp only [Bool.and_eq_true, decide_eq_true_eq] at ha
        have hxq : x = q.1 := I32ext (by rw [ha.1]; omega)
        refine E_pure (hK _ _ _ _ (tsw_get h _ q hq hxq)) (fun a b => ⟨a, (okS_cons.mp b).2⟩) ?_
        intro l C p e R s mm args below meth cc H locs cells slots ls Qf aL aS aM aF hF hSt hH hS hL hrk hlq k
        obtain ⟨hx, hb, hml, hr, hlk, hnm, hown, hts⟩ := hF
        exact lv_tableIn hx hb hd h1 h2 ho (of_decide_eq_true ha.2) (k ls hL)
      · cases ha
  · exact h.elim
theorem E_iret {ty : FieldType} {x : Int32} (hd : decode (mB i) pc = .ok (.ireturn, 1)) (hR : mR i = some ty) (hnw : narrow ty (.int x) = .int x) (hQ : Q (some (vI x)) m) : smE md i pc sl [vI x] m Q := by
  intro b1 b2 b3 b4
  refine ⟨some (vI x), m, hQ, Ext.rf m, (fun w z => by cases z; trivial), b3, b4, ?_⟩
  intro l C p e R s mm args below meth cc H locs cells slots ls hF hSt hH hS hL hce hsl hrk hlq
  obtain ⟨hx, hb, hml, hr, hlk, hnm, hown, hts⟩ := hF
  rw [Nat.sub_self, Nat.sub_self, Nat.add_zero, Nat.add_zero]
  exact W.zret hx hb (hr.trans hR) hnw (fun t ht hw => ⟨rfl, by rw [ht]; exact hH, by rw [show t.heap = H from ht]; exact hS.1, fun q h1 h2 => by rw [ht]; exact hS.2.1 q h1 h2⟩) hS.2.2 hd
theorem E_lret {x : Int64} (hd : decode (mB i) pc = .ok (.lreturn, 1)) (hR : mR i = some .long) (hQ : Q (some (vL x)) m) : smE md i pc sl [vL x] m Q := by
  intro b1 b2 b3 b4
  refine ⟨some (vL x), m, hQ, Ext.rf m, (fun w z => by cases z; trivial), b3, b4, ?_⟩
  intro l C p e R s mm args below meth cc H locs cells slots ls hF hSt hH hS hL hce hsl hrk hlq
  obtain ⟨hx, hb, hml, hr, hlk, hnm, hown, hts⟩ := hF
  rw [Nat.sub_self, Nat.sub_self, Nat.add_zero, Nat.add_zero]
  exact W.lret hx hb (hr.trans hR) (fun t ht hw => ⟨rfl, by rw [ht]; exact hH, by rw [show t.heap = H from ht]; exact hS.1, fun q h1 h2 => by rw [ht]; exact hS.2.1 q h1 h2⟩) hS.2.2 hd
theorem E_vret (hd : decode (mB i) pc = .ok (.return_, 1)) (hR : mR i = none) (hQ : Q none m) : smE md i pc sl [] m Q := by
  intro b1 b2 b3 b4
  refine ⟨none, m, hQ, Ext.rf m, (fun w z => by cases z), b3, b4, ?_⟩
  intro l C p e R s mm args below meth cc H locs cells slots ls hF hSt hH hS hL hce hsl hrk hlq
  obtain ⟨hx, hb, hml, hr, hlk, hnm, hown, hts⟩ := hF
  rw [Nat.sub_self, Nat.sub_self, Nat.add_zero, Nat.add_zero]
  exact W.vret hx hb (hr.trans hR) (fun t ht hw => ⟨rfl, by rw [ht]; exact hH, by rw [show t.heap = H from ht]; exact hS.1, fun q h1 h2 => by rw [ht]; exact hS.2.1 q h1 h2⟩) hS.2.2 hd
theorem E_aret {rt : FieldType} {r : Option Rf} (hd : decode (mB i) pc = .ok (.areturn, 1)) (hR : mR i = some rt) (hrt : (∃ n, rt = .object n) ∨ ∃ t, rt = .array t) (hQ : Q (some (vR r)) m) : smE md i pc sl [vR r] m Q := by
  intro b1 b2 b3 b4
  refine ⟨some (vR r), m, hQ, Ext.rf m, (fun w z => by cases z; exact (okS_cons.mp b2).1), b3, b4, ?_⟩
  intro l C p e R s mm args below meth cc H locs cells slots ls hF hSt hH hS hL hce hsl hrk hlq
  obtain ⟨hx, hb, hml, hr, hlk, hnm, hown, hts⟩ := hF
  rw [Nat.sub_self, Nat.sub_self, Nat.add_zero, Nat.add_zero]
  have hv : tv C (vR r) = .null ∨ ∃ a, tv C (vR r) = .ref a := by
    cases r with
    | none => exact Or.inl rfl
    | some a =>
      simp only [tv]
      split
      · exact hSt.sq
      · exact Or.inr ⟨_, rfl⟩
  exact W.aret hx hb (hr.trans hR) hrt hv (fun t ht hw => ⟨rfl, by rw [ht]; exact hH, by rw [show t.heap = H from ht]; exact hS.1, fun q h1 h2 => by rw [ht]; exact hS.2.1 q h1 h2⟩) hS.2.2 hd
theorem x_ireturn (hd : decode (mB i) pc = .ok (.ireturn, n - pc)) (hn : okN pc (.ireturn) n = true) (hi : okI i pc (.ireturn) r1 r2 r3 w c cl ts = true) (hK : ∀ p l s m', K p l s m' → smE md i p l s m' Q) (h : st1 md i (pc, .ireturn, n, r1, r2, r3, w, c, cl, ts) sl st m Q K) : smE md i pc sl st m Q := by
  obtain rfl : n = pc + 1 := Nat.eq_of_beq_eq_true hn
  rw [Nat.add_sub_cancel_left] at hd
  simp only [st1, sRet] at h
  split at h
  · rename_i x
    split at h
    · exact E_iret hd (by assumption) rfl h.2
    · exact E_iret hd (by assumption) (by rcases h.1 with z | z <;> subst z <;> rfl) h.2
    · exact E_iret hd (by assumption) (by rw [← h.1]; exact pk_nb _) h.2
    · exact E_iret hd (by assumption) (by rw [← h.1]; exact pk_nc _) h.2
    · exact h.elim
  · exact h.elim
theorem cA_newI {C : Ctx} {L : Nat} {xs : Nat → Int32} {s : State} (h : Sta C L xs s) {cA0 : ClassId} (hn : s.vm.findClass ("[" ++ (FieldType.int).toString) = some cA0) : cA0 = cIA C := Option.some.inj (hn.symm.trans (h.1.2 0 _ rfl).2)
theorem cA_newB {C : Ctx} {L : Nat} {xs : Nat → Int32} {s : State} (h : Sta C L xs s) {cA0 : ClassId} (hn : s.vm.findClass ("[" ++ (FieldType.byte).toString) = some cA0) : cA0 = cBA C := Option.some.inj (hn.symm.trans (h.1.2 1 _ rfl).2)
theorem gI_new {m : Mem} {t z : Nat} (h : t < 60) : gI (al m t z) t (nX m) = fun _ => 0 := by
  funext k
  show (if nX m = nX m then (if t < 60 then 0 else gI m t (nX m) k) else gI m t (nX m) k) = 0
  rw [if_pos rfl, if_pos h]
theorem gP_new {m : Mem} {t z : Nat} : gP (al m t z) t (nX m) = fun _ => none := by
  funext k
  show (if nX m = nX m then none else gP m t (nX m) k) = none
  rw [if_pos rfl]
theorem ln_new {m : Mem} {t z : Nat} (h : t < 60) (hz : tl t = some z ∨ tl t = none) : ln (al m t z) t (nX m) = z := by
  have e : gL (al m t z) t (nX m) = z := by
    show (if nX m = nX m then (if t < 60 then z else gL m t (nX m)) else gL m t (nX m)) = z
    rw [if_pos rfl, if_pos h]
  unfold ln
  rcases hz with hz | hz
  · rw [hz]
  · rw [hz]
    simp only
    split
    · exact absurd h (by decide)
    · exact absurd h (by decide)
    · exact absurd h (by decide)
    · exact e
theorem okTag_ok {md : Bool} {t : Nat} (h : okTag md t = true) : md = true → t = 20 ∨ t = 21 ∨ t = 22 := by
  intro z
  subst z
  simp only [okTag, Bool.and_eq_true] at h
  have h1 := Nat.le_of_ble_eq_true h.1
  have h2 := Nat.le_of_ble_eq_true h.2
  omega
theorem tk_lt48 : ∀ t b, 1 ≤ b → b ≤ 3 → tk t = b → t < 60 → t < 48 := by
  have h : ∀ t, t < 60 → tk t < 9 → t < 48 := by decide +kernel
  intro t b h1 h2 h3 h4
  exact h t h4 (by omega)
theorem tl_le (t z : Nat) (h : tl t = some z) : z ≤ 100000 := by
  unfold tl at h
  split at h <;> first | (cases h; decide) | (cases h; done)
theorem E_newa {b z : Nat} {s0 : List SV} {x : Int32} (hb : b = 1 ∨ b = 2) (hd : decode (mB i) pc = .ok (.newarray (if b = 1 then .int else .byte), 2)) (htag : okTag md r2 = true) (htk : tk r2 = b) (h60 : r2 < 60) (hx0 : ¬ x < 0) (hxz : x.toNatClampNeg = z) (hz : z ≤ 100000) (htl : tl r2 = some z ∨ tl r2 = none)
    (hE : smE md i (pc + 2) sl (vR (some (r2, nX m)) :: s0) (al m r2 z) Q) : smE md i pc sl (vI x :: s0) m Q := by
  have h48 : r2 < 48 := tk_lt48 r2 b (by omega) (by omega) htk h60
  refine E_gen 1 z hE (fun a b c d => ⟨fun v hv => ?_, okS_cons.mpr ⟨okR_new h60, fun v hv => ?_⟩, okM_al c h48 (by omega), fun q => FR_al (d q) (okTag_ok htag q)⟩) Ext_al rfl rfl ?_
  · have := a v hv
    match v, this with
    | .inl _, _ => trivial
    | .inr (.inl _), _ => trivial
    | .inr (.inr none), _ => trivial
    | .inr (.inr (some a)), q => exact okR_al q
  · have := (okS_cons.mp b).2 v hv
    match v, this with
    | .inl _, _ => trivial
    | .inr (.inl _), _ => trivial
    | .inr (.inr none), _ => trivial
    | .inr (.inr (some a)), q => exact okR_al q
  intro l C p e R s mm args below meth cc H locs cells slots ls Qf aL aS aM aF hF hSt hH hS hL hce hsl hrk hlq k
  obtain ⟨hx, hcb, hml, hr, hlk, hnm, hown, hts⟩ := hF
  simp only [List.map_cons] at k ⊢
  rw [tv_ref h60] at k
  rcases hb with hb | hb
  · subst hb
    have hd : decode (mB i) pc = .ok (.newarray .int, 2) := hd
    refine va_newaK hx hcb (atype := .int) (hts _ (tw arrI_ok rfl)) rfl hd rfl hx0 hxz (by show z * 4 ≤ _; omega) hce hsl hH.1 fun H1 c0 e1 z1 o1 hA hNm => ?_
    have hc0 := cA_newI hSt hNm
    subst hc0
    refine k H1 locs ls (HR_al hH h48 (by omega) (by rw [z1, hH.1]) (fun q hq => o1 q (by rw [← hH.1]; exact hq)) ?_) (va_S_al hS (by rw [z1, hH.1]) (fun q hq => o1 q (by rw [← hH.1]; exact hq))) hL
    rw [ent_int htk, gI_new h60, ln_new h60 htl]
    exact e1
  · subst hb
    have hd : decode (mB i) pc = .ok (.newarray .byte, 2) := hd
    refine va_newaK hx hcb (atype := .byte) (hts _ (tw arrB_ok rfl)) rfl hd rfl hx0 hxz (by show z * 1 ≤ _; omega) hce hsl hH.1 fun H1 c0 e1 z1 o1 hA hNm => ?_
    have hc0 := cA_newB hSt hNm
    subst hc0
    refine k H1 locs ls (HR_al hH h48 (by omega) (by rw [z1, hH.1]) (fun q hq => o1 q (by rw [← hH.1]; exact hq)) ?_) (va_S_al hS (by rw [z1, hH.1]) (fun q hq => o1 q (by rw [← hH.1]; exact hq))) hL
    rw [ent_byte htk, gI_new h60, ln_new h60 htl]
    exact e1
theorem x_newarray_int (hd : decode (mB i) pc = .ok (.newarray .int, n - pc)) (hn : okN pc (.newarray .int) n = true) (hi : okI i pc (.newarray .int) r1 r2 r3 w c cl ts = true) (hK : ∀ p l s m', K p l s m' → smE md i p l s m' Q) (h : st1 md i (pc, .newarray .int, n, r1, r2, r3, w, c, cl, ts) sl st m Q K) : smE md i pc sl st m Q := by
  obtain rfl : n = pc + 2 := Nat.eq_of_beq_eq_true hn
  rw [Nat.add_sub_cancel_left] at hd
  simp only [st1, sNewa] at h
  split at h
  · rename_i x s0
    split at h
    · rename_i h1
      simp only [Bool.and_eq_true] at h1
      have htk : tk r2 = 1 := Nat.eq_of_beq_eq_true h1.2
      have h60 : r2 < 60 := by have := Nat.le_of_ble_eq_true hi; omega
      split at h
      · rename_i z htl
        exact E_newa (b := 1) (by decide) hd h1.1 htk h60 h.1.1 h.1.2 (tl_le r2 z htl) (Or.inl htl) (hK _ _ _ _ h.2)
      · rename_i htl
        exact E_newa (b := 1) (by decide) hd h1.1 htk h60 h.1.1 rfl h.1.2 (Or.inr htl) (hK _ _ _ _ h.2)
    · exact h.elim
  · exact h.elim
theorem x_newarray_byte (hd : decode (mB i) pc = .ok (.newarray .byte, n - pc)) (hn : okN pc (.newarray .byte) n = true) (hi : okI i pc (.newarray .byte) r1 r2 r3 w c cl ts = true) (hK : ∀ p l s m', K p l s m' → smE md i p l s m' Q) (h : st1 md i (pc, .newarray .byte, n, r1, r2, r3, w, c, cl, ts) sl st m Q K) : smE md i pc sl st m Q := by
  obtain rfl : n = pc + 2 := Nat.eq_of_beq_eq_true hn
  rw [Nat.add_sub_cancel_left] at hd
  simp only [st1, sNewa] at h
  split at h
  · rename_i x s0
    split at h
    · rename_i h1
      simp only [Bool.and_eq_true] at h1
      have htk : tk r2 = 2 := Nat.eq_of_beq_eq_true h1.2
      have h60 : r2 < 60 := by have := Nat.le_of_ble_eq_true hi; omega
      split at h
      · rename_i z htl
        exact E_newa (b := 2) (by decide) hd h1.1 htk h60 h.1.1 h.1.2 (tl_le r2 z htl) (Or.inl htl) (hK _ _ _ _ h.2)
      · rename_i htl
        exact E_newa (b := 2) (by decide) hd h1.1 htk h60 h.1.1 rfl h.1.2 (Or.inr htl) (hK _ _ _ _ h.2)
    · exact h.elim
  · exact h.elim
end MISC
