theorem in0_ret : ∀ y, y < 282 → isIn0 y = true → mR y = none := by decide +kernel
set_option maxRecDepth 20000 in
theorem MT_obj : ∀ q ∈ MT, q.2.2.1 = 2000 → tables_1[q.2.2.2.2.2]? = some (Cond.methodLink (cN q.1) q.2.1 objectInit) := by
  have h : ∀ q ∈ MT, q.2.2.1 = 2000 → q ∈ [(1, 3, 2000, 1, 1, 233), (2, 3, 2000, 1, 1, 34), (3, 3, 2000, 1, 1, 105), (4, 3, 2000, 1, 1, 226), (5, 3, 2000, 1, 1, 99), (6, 1, 2000, 1, 1, 26), (7, 11, 2000, 1, 1, 1208), (14, 3, 2000, 1, 1, 986)] := by decide +kernel
  intro q hq h1
  have h2 := h q hq h1
  simp only [List.mem_cons, List.not_mem_nil, or_false] at h2
  rcases h2 with rfl | rfl | rfl | rfl | rfl | rfl | rfl | rfl
  all_goals rfl
set_option maxRecDepth 20000 in
theorem MT_cpy : ∀ q ∈ MT, q.2.2.1 = 2001 → tables_1[q.2.2.2.2.2]? = some (Cond.methodLink (cN q.1) q.2.1 arraycopyName) := by
  have h : ∀ q ∈ MT, q.2.2.1 = 2001 → q ∈ [(10, 150, 2001, 0, 5, 782)] := by decide +kernel
  intro q hq h1
  have h2 := h q hq h1
  simp only [List.mem_cons, List.not_mem_nil, or_false] at h2
  subst h2
  rfl
theorem gI_sA_same (m : Mem) (t n : Nat) (f : Nat → Int32) : gI (sA m t n f) t n = f := by
  funext k
  show (if n = n then (if t = t then f k else gI m t n k) else gI m t n k) = f k
  simp
theorem gI_sA_n {m : Mem} {t n : Nat} {f : Nat → Int32} {t' n' k' : Nat} (h : n' ≠ n) : gI (sA m t n f) t' n' k' = gI m t' n' k' := by
  show (if n' = n then (if t' = t then f k' else gI m t' n' k') else gI m t' n' k') = _
  rw [if_neg h]
theorem gI_sA_t {m : Mem} {t n : Nat} {f : Nat → Int32} {t' n' k' : Nat} (h : t' ≠ t) : gI (sA m t n f) t' n' k' = gI m t' n' k' := by
  show (if n' = n then (if t' = t then f k' else gI m t' n' k') else gI m t' n' k') = _
  rw [if_neg h]; split <;> rfl
theorem entC_A {C : Ctx} {m : Mem} {t n : Nat} {f : Nat → Int32} (t' j : Nat) (h : j ≠ n) : entC C (sA m t n f) t' j = entC C m t' j := by
  have h1 : gI (sA m t n f) t' j = gI m t' j := funext fun q => gI_sA_n h
  have h2 : fv C (sA m t n f) t' j = fv C m t' j := by
    funext q
    unfold fv
    rw [h1]; rfl
  unfold entC
  rw [h1, h2]; rfl
theorem Ext_A {m : Mem} {t n : Nat} {f : Nat → Int32} (h : t < 60) : Ext m (sA m t n f) := by
  refine ⟨Nat.le_refl _, Nat.le_refl _, fun _ z => z, rfl, ?_⟩
  funext q
  exact gI_sA_t (by omega)
set_option maxRecDepth 20000 in
theorem cpy_nat : tables_1[784]? = some (Cond.native arraycopyName) := rfl
set_option maxRecDepth 20000 in
theorem cpy_sta : tables_1[783]? = some (Cond.static arraycopyName) := rfl
set_option maxRecDepth 20000 in
theorem cpy_ini : tables_1[15]? = some (Cond.initialized "java/lang/System") := rfl
/-- System.arraycopy of numbers; the heap stays as large -/
theorem sp_copy {p : Program} {l : Launch} {e : Env} {R : Room} {s : State} {m : MethodId} {args : Array Value} {below : List Frame} {meth : Method} {c : Code} {H : Heap} {locs : List Loc} {cells slots : Nat} {Q : State → Prop} {pc : Nat} {ls : Array Slot} {rest : List Value} {D : va_G} {cl : List vw_C} {A : Nat → Prop} {a : Nat} {tys : List (ClassId × FieldType)} {ws : va_W} {H0 : Heap} {cc : ByteArray}
    (hexec : p.tables.exec = Jvm.exec) (hb : c.code = cc) (hml : c.maxLocals = ls.size) {own : String} {index : Nat} (hown : s.vm.findClass own = some m.cls) (hlink : (Cond.methodLink own index arraycopyName).before args s = true) (hnat : (Cond.native arraycopyName).before args s = true) (hstat : (Cond.static arraycopyName).before args s = true) (hini : (Cond.initialized "java/lang/System").before args s = true)
    (hK : va_K D cl tys s) (hP : va_P D cl ws H) (hD : va_D A ws) (hS : va_S A H0 H locs) (q0 q1 t0 : Nat) {a0 : Nat} {c0 : ClassId} {n0 n1 : Nat} {f g : Nat → Int32} {ty : FieldType} (ha0 : ws[q0]? = some (a0, .inl (c0, n0, .inl f))) (ha1 : ws[q1]? = some (a, .inl (c0, n1, .inl g))) (ht0 : tys[t0]? = some (c0, ty)) (hprim : refKind ty = false)
    {sp dp n : Int32} (h1 : ¬ sp < 0) (h2 : ¬ dp < 0) (h3 : ¬ n < 0) (h4 : sp.toNatClampNeg + n.toNatClampNeg ≤ n0) (h5 : dp.toNatClampNeg + n.toNatClampNeg ≤ n1) (hfit : ∀ i, i < n.toNatClampNeg → fits ty (.int (f (sp.toNatClampNeg + i))) = true)
    (hframes : 1 ≤ R.frames) (hlocals : (rest.map fun v => v.category).sum + (nativeFrameWords "java/lang/System" "arraycopy" 5 + 11) ≤ R.locals) (hdg : decode cc pc = .ok (.invokestatic index, 3))
    (kk : ∀ (H1 : Heap) (locs1 : List Loc), H1.size = H.size → va_P D cl (ws.set q1 (a, .inl (c0, n1, .inl (va_cpy f g sp.toNatClampNeg dp.toNatClampNeg n.toNatClampNeg)))) H1 → va_S A H0 H1 locs1 → W p l e R s m args below meth c H1 locs1 cells slots Q (F0 m (pc + 3) ls rest)) : W p l e R s m args below meth c H locs cells slots Q (F0 m pc ls (.int n :: .int dp :: .ref a :: .int sp :: .ref a0 :: rest)) := by
  have nn : ∀ z : Int32, ¬ z < 0 → z.toInt = (z.toNatClampNeg : Int) := by
    intro z hz
    have hz0 : (0 : Int) ≤ z.toInt := by
      have := Int32.not_lt.mp hz
      simpa using Int32.le_iff_toInt_le.mp this
    show z.toInt = ((z.toInt.toNat : Nat) : Int)
    omega
  intro T hT X
  have hc0 : H[a0]? = some (vp_cell c0 (n0, .inl f)) := hP q0 _ ha0
  have hc1 : H[a]? = some (vp_cell c0 (n1, .inl g)) := hP q1 _ ha1
  obtain ⟨-, k0, hk0, cm0, hkk0⟩ := (hK.2 t0 _ ht0).1 n0 (fun j => .int (f j))
  obtain ⟨vm', X', step⟩ := X.arraycopy hexec hown hlink hnat hstat hini (src := a0) (dst := a) (cs := vp_cell c0 (n0, .inl f)) (cd := vp_cell c0 (n1, .inl g)) (srcPos := sp) (destPos := dp) (n := n) (by rw [hT]; exact hc0) (by rw [hT]; exact hc1)
    (fun _ h => by cases h) (fun _ h => by cases h) (fun h => by cases h) (fun h => by cases h) hk0 hk0 hkk0 hkk0 (by simp [hprim]) h1 h2 h3
    (by rw [nn sp h1, nn n h3]; show ¬ _ > ((arrV c0 n0 (fun j => .int (f j))).slots.size : Int); rw [arrV_size]; omega)
    (by rw [nn dp h2, nn n h3]; show ¬ _ > ((arrV c0 n1 (fun j => .int (g j))).slots.size : Int); rw [arrV_size]; omega)
    (fun vm₁ _ i hi => by
      have e : (vp_cell c0 (n0, .inl f)).slots.getD (sp.toNatClampNeg + i) .null = .int (f (sp.toNatClampNeg + i)) := by
        show (arrV c0 n0 (fun j => .int (f j))).slots.getD _ _ = _
        rw [Array.getD_eq_getD_getElem?, arrV_read _ _ (by omega)]
        rfl
      refine ⟨?_, ?_⟩
      · rw [e]
        exact hfit i hi
      · rw [e]
        exact trivial)
    (g := F0 m pc ls (.int n :: .int dp :: .ref a :: .int sp :: .ref a0 :: rest)) rfl (by rw [hml]) (rest := rest) rfl (by rw [hb]; exact hdg) hframes (by show 2 * 0 + _ + _ ≤ _; omega)
  have e1 : copied (vp_cell c0 (n0, .inl f)) (vp_cell c0 (n1, .inl g)) sp dp n = vp_cell c0 (n1, .inl (va_cpy f g sp.toNatClampNeg dp.toNatClampNeg n.toNatClampNeg)) := va_copied (fun z => .int z) c0 c0 f g h4
  rw [e1] at X' step
  have hl : a < H.size := (Array.getElem?_eq_some_iff.mp hc1).1
  have hheap : ((T.setVm vm').setCell a (vp_cell c0 (n1, .inl (va_cpy f g sp.toNatClampNeg dp.toNatClampNeg n.toNatClampNeg)))).heap = H.setIfInBounds a (vp_cell c0 (n1, .inl (va_cpy f g sp.toNatClampNeg dp.toNatClampNeg n.toNatClampNeg))) := by rw [← hT]; rfl
  have oq : ∀ q : Nat, q ≠ a → (H.setIfInBounds a (vp_cell c0 (n1, .inl (va_cpy f g sp.toNatClampNeg dp.toNatClampNeg n.toNatClampNeg))))[q]? = H[q]? := fun q hq => by simp [Array.getElem?_setIfInBounds, Ne.symm hq]
  obtain ⟨t, a1, b1⟩ := kk _ _ (by simp) (hP.set hD ha1 (show (H.setIfInBounds a _)[a]? = some _ by simp [Array.getElem?_setIfInBounds, hl]) oq) ⟨by simp; exact hS.1, fun q g1 g2 => by
      rw [oq q (fun e => g2 (by rw [e]; exact hD.2 q1 _ ha1))]
      exact hS.2.1 q g1 g2, fun q hq => by
      rcases List.mem_append.mp hq with h | h
      · exact hS.2.2 q h
      · obtain ⟨z, -, hz⟩ := List.mem_map.mp h
        rw [← hz]
        exact hD.2 q1 _ ha1⟩ _ hheap X'
  exact ⟨t, step t a1, b1⟩
section INV
variable {md : Bool} {i pc n r1 r2 r3 w : Nat} {c : Int32} {cl : Int64} {ts : List (Int32 × Nat)} {sl : List (Option SV)} {st : List SV} {m : Mem} {Q : Option SV → Mem → Prop} {K : Kt}
theorem x_invokevirtual {idx : Nat} (hcn : cN (mO i) = (mN i).cls) (h1rk : 1 ≤ rk i) (h40 : 40 ≤ lq i) (hd : decode (mB i) pc = .ok (.invokevirtual idx, n - pc)) (hn : okN pc (.invokevirtual idx) n = true) (hi : okI i pc (.invokevirtual idx) r1 r2 r3 w c cl ts = true) (hK : ∀ p l s m', K p l s m' → smE md i p l s m' Q) (h : st1 md i (pc, .invokevirtual idx, n, r1, r2, r3, w, c, cl, ts) sl st m Q K) : smE md i pc sl st m Q := by
  obtain rfl : n = pc + 3 := Nat.eq_of_beq_eq_true hn
  rw [Nat.add_sub_cancel_left] at hd
  simp only [st1, sCall] at h
  split at h
  · exact h.elim
  · rename_i hle
    have hco := callOK_of hi (ble_false hle)
    obtain ⟨lp, s0, h1, h2, h⟩ := popK_spec _ _ _ _ h
    rw [List.append_nil] at h
    split at h
    · exact h.elim
    · rename_i hcs
      have hcs : catS s0 ≤ 8 := Nat.le_of_ble_eq_true hcs
      have hst : st = lp.reverse.reverse ++ s0 := by rw [List.reverse_reverse]; exact h1
      have hlen : lp.reverse.length = r2 := by rw [List.length_reverse]; exact h2
      split at h
      · rename_i t cn as' has
        split at h
        · rename_i htc
          exact E_virt has (Nat.eq_of_beq_eq_true htc) hcn (by rw [has]; exact h.2) hK hst hcs hlen hd hco
        · exact h.elim
      · exact absurd (by assumption) (show ¬ (2 : Nat) = 1 by decide)
      · exact absurd (by assumption) (show ¬ (2 : Nat) = 0 by decide)
      · exact h.elim
theorem x_invokespecial {idx : Nat} (hcn : cN (mO i) = (mN i).cls) (h1rk : 1 ≤ rk i) (h40 : 40 ≤ lq i) (hd : decode (mB i) pc = .ok (.invokespecial idx, n - pc)) (hn : okN pc (.invokespecial idx) n = true) (hi : okI i pc (.invokespecial idx) r1 r2 r3 w c cl ts = true) (hK : ∀ p l s m', K p l s m' → smE md i p l s m' Q) (h : st1 md i (pc, .invokespecial idx, n, r1, r2, r3, w, c, cl, ts) sl st m Q K) : smE md i pc sl st m Q := by
  obtain rfl : n = pc + 3 := Nat.eq_of_beq_eq_true hn
  rw [Nat.add_sub_cancel_left] at hd
  simp only [st1, sCall] at h
  split at h
  · split at h
    · rename_i t cn s0 _ _
      split at h
      · rename_i h60 hcs
        have h60 := lt_of_ble h60
        have hcs : catS s0 ≤ 8 := Nat.le_of_ble_eq_true hcs
        have hmt : (mO i, idx, 2000, 1, r2, w) ∈ MT := by
          simp only [okI, Bool.or_eq_true, Bool.and_eq_true, List.contains_iff_mem] at hi
          rcases hi with hi | hi
          · exact absurd (Nat.eq_of_beq_eq_true hi) (by decide)
          · exact hi.1
        refine E_pure (hK _ _ _ _ h) (fun a b => ⟨a, (okS_cons.mp b).2⟩) ?_
        intro l C p e R s mm args below meth cc H locs cells slots ls Qf aL aS aM aF hF hSt hH hS hL hrk hlq k
        obtain ⟨hx, hb, hml, hr, hlk, hnm, hown, hts⟩ := hF
        have k := k ls hL
        simp only [List.map_cons, tv_ref h60]
        have hl : (Cond.methodLink (mN i).cls idx objectInit).before args s = true := by
          have z := MT_obj _ hmt rfl
          simp only [hcn] at z
          exact hts _ (tw z rfl)
        exact W.objInit hx hb hown hl (hts _ (tw obj_inst rfl)) (hts _ (tw obj_code rfl)) rfl (hL.1.trans hml.symm) rfl hd (by omega) (by rw [catS_ok hSt.sq]; show 2 * 0 + catS s0 + 12 ≤ R.locals; omega) k
      · exact h.elim
    · exact absurd (by assumption) (show ¬ (1 : Nat) = 0 by decide)
    · exact h.elim
  · rename_i hle
    have hco := callOK_of hi (ble_false hle)
    obtain ⟨lp, s0, h1, h2, h⟩ := popK_spec _ _ _ _ h
    rw [List.append_nil] at h
    split at h
    · exact h.elim
    · rename_i hcs
      have hcs : catS s0 ≤ 8 := Nat.le_of_ble_eq_true hcs
      have hst : st = lp.reverse.reverse ++ s0 := by rw [List.reverse_reverse]; exact h1
      have hlen : lp.reverse.length = r2 := by rw [List.length_reverse]; exact h2
      split at h
      · exact absurd (by assumption) (show ¬ (1 : Nat) = 2 by decide)
      · rename_i t cn as' has
        split at h
        · rename_i h60
          obtain ⟨cY, iY, kY, sY, hyt, hy282, har⟩ := okY_get hco.2.1
          have h0 : isIn0 r1 = true := by
            rcases har with z | z | z
            · exact absurd z.1 (by decide)
            · exact z.2.2
            · exact absurd z.1 (by decide)
          exact E_init has (lt_of_ble h60) hcn (by rw [has]; exact h.2) hK hst hcs hlen hd hco (in0_ret r1 hy282 h0)
        · exact h.elim
      · exact absurd (by assumption) (show ¬ (1 : Nat) = 0 by decide)
      · exact h.elim
theorem x_invokestatic {idx : Nat} (hcn : cN (mO i) = (mN i).cls) (h1rk : 1 ≤ rk i) (h40 : 40 ≤ lq i) (hd : decode (mB i) pc = .ok (.invokestatic idx, n - pc)) (hn : okN pc (.invokestatic idx) n = true) (hi : okI i pc (.invokestatic idx) r1 r2 r3 w c cl ts = true) (hK : ∀ p l s m', K p l s m' → smE md i p l s m' Q) (h : st1 md i (pc, .invokestatic idx, n, r1, r2, r3, w, c, cl, ts) sl st m Q K) : smE md i pc sl st m Q := by
  obtain rfl : n = pc + 3 := Nat.eq_of_beq_eq_true hn
  rw [Nat.add_sub_cancel_left] at hd
  simp only [st1, sCall] at h
  split at h
  · split at h
    · exact absurd (by assumption) (show ¬ (0 : Nat) = 1 by decide)
    · rename_i lz dp td cd' sp tz cs' s0 _ _
      split at h
      · rename_i h1 h2 h3 h4
        have ht1 := lt_of_ble h1
        have ht2 := lt_of_ble h2
        have hk : tk td = tk tz := Nat.eq_of_beq_eq_true h3
        simp only [Bool.and_eq_true, Bool.or_eq_true] at h4
        have hcs : catS s0 ≤ 8 := Nat.le_of_ble_eq_true h4.2
        have hk2 : tk td = 1 ∨ tk td = 2 := h4.1.imp Nat.eq_of_beq_eq_true Nat.eq_of_beq_eq_true
        have hmt : (mO i, idx, 2001, 0, r2, w) ∈ MT := by
          simp only [okI, Bool.or_eq_true, Bool.and_eq_true, List.contains_iff_mem] at hi
          rcases hi with hi | hi
          · exact absurd (Nat.eq_of_beq_eq_true hi) (by decide)
          · exact hi.1
        obtain ⟨⟨hne, g1, g2, g3, g4, g5, g6⟩, h⟩ := h
        refine E_gen 0 0 (hK _ _ _ _ h) (fun a b c d => ⟨a, (okS_cons.mp (okS_cons.mp (okS_cons.mp (okS_cons.mp (okS_cons.mp b).2).2).2).2).2, c, d⟩) (Ext_A ht1) rfl rfl ?_
        intro l C p e R s mm args below meth cc H locs cells slots ls Qf aL aS aM aF hF hSt hH hS hL hce hsl hrk hlq k
        obtain ⟨hx, hb, hml, hr, hlk, hnm, hown, hts⟩ := hF
        have z := MT_cpy _ hmt rfl
        simp only [hcn] at z
        have a3 := (okS_cons.mp (okS_cons.mp aS).2).2
        obtain ⟨he1, hnx1, hrg1, -⟩ := hH.at (okS_cons.mp a3).1 ht1
        obtain ⟨he0, hnx0, hrg0, -⟩ := hH.at (okS_cons.mp (okS_cons.mp (okS_cons.mp a3).2).2).1 ht2
        simp only [List.map_cons, tv_ref ht1, tv_ref ht2]
        have hloc : (((s0.map (tv C)).map fun v => v.category).sum) + (nativeFrameWords "java/lang/System" "arraycopy" 5 + 11) ≤ R.locals := by
          rw [catS_ok hSt.sq, show nativeFrameWords "java/lang/System" "arraycopy" 5 = 7 by decide]; omega
        have fin : ∀ (H1 : Heap) (locs1 : List Loc), H1.size = H.size → va_P (cD C) vwCl ((wsO C m).set cd' (cB0 C + cd', entC C (sA m td cd' (va_cpy (gI m tz cs') (gI m td cd') sp.toNatClampNeg dp.toNatClampNeg lz.toNatClampNeg)) td cd')) H1 → va_S (cA C) s.heap H1 locs1 → _ := fun H1 locs1 z1 hP1 hS1 => k H1 locs1 ls ⟨z1.trans hH.1, by
          rw [ws_set (C := C) (m := m) (m' := sA m td cd' (va_cpy (gI m tz cs') (gI m td cd') sp.toNatClampNeg dp.toNatClampNeg lz.toNatClampNeg)) rfl (by show entC C _ (rgn m cd') cd' = _; rw [hrg1]) (fun j hj hjn => entC_A _ j hjn)] at hP1
          exact hP1, hH.2.2⟩ hS1 hL
        rcases hk2 with q | q
        · have q2 : tk tz = 1 := hk ▸ q
          rw [ent_int q] at he1
          rw [ent_int q2] at he0
          simp only [ent_int q, gI_sA_same] at fin
          exact sp_copy hx hb (hml.trans hL.1.symm) hown (hts _ (tw z rfl)) (hts _ (tw cpy_nat rfl)) (hts _ (tw cpy_sta rfl)) (hts _ (tw cpy_ini rfl)) hSt.1 hH.2.1 (ws_D m) hS cs' cd' 0 he0 he1 rfl rfl g1 g2 g3 g4 g5 (fun _ _ => rfl) (by omega) hloc hd fin
        · have q2 : tk tz = 2 := hk ▸ q
          rw [ent_byte q] at he1
          rw [ent_byte q2] at he0
          simp only [ent_byte q, gI_sA_same] at fin
          exact sp_copy hx hb (hml.trans hL.1.symm) hown (hts _ (tw z rfl)) (hts _ (tw cpy_nat rfl)) (hts _ (tw cpy_sta rfl)) (hts _ (tw cpy_ini rfl)) hSt.1 hH.2.1 (ws_D m) hS cs' cd' 1 he0 he1 rfl rfl g1 g2 g3 g4 g5 (fun j _ => by rw [← g6 q]; exact pk_fb _) (by omega) hloc hd fin
      · exact h.elim
    · exact h.elim
  · rename_i hle
    have hco := callOK_of hi (ble_false hle)
    obtain ⟨lp, s0, h1, h2, h⟩ := popK_spec _ _ _ _ h
    rw [List.append_nil] at h
    split at h
    · exact h.elim
    · rename_i hcs
      have hcs : catS s0 ≤ 8 := Nat.le_of_ble_eq_true hcs
      have hst : st = lp.reverse.reverse ++ s0 := by rw [List.reverse_reverse]; exact h1
      have hlen : lp.reverse.length = r2 := by rw [List.length_reverse]; exact h2
      exact E_static hcn h.2 hK hst hcs hlen hd hco
end INV
