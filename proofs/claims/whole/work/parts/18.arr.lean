theorem okR_tags {m : Mem} {t n : Nat} (h : okR m (t, n)) (h60 : 60 ≤ t) : (t = 60 ∧ n < 11) ∨ (t = 61 ∧ n < 16) ∨ (t = 62 ∧ n < 16) ∨ (t = 63 ∧ n = 0) ∨ (t = 64 ∧ n < 2) ∨ (t = 65 ∧ n = 0) := h.2 h60
theorem ln_60 (m : Mem) (n : Nat) : ln m 60 n = (stI n).length := rfl
theorem ln_62 (m : Mem) (n : Nat) : ln m 62 n = (stS n).length := rfl
theorem ln_63 (m : Mem) (n : Nat) : ln m 63 n = gL m 63 n := rfl
theorem ln_64 (m : Mem) (n : Nat) : ln m 64 n = 100 := rfl
theorem ble60 {t : Nat} : (Nat.ble 60 t = true ↔ 60 ≤ t) := ⟨Nat.le_of_ble_eq_true, Nat.ble_eq_true_of_le⟩
section ARR
variable {md : Bool} {i pc n r1 r2 r3 w : Nat} {c : Int32} {cl : Int64} {ts : List (Int32 × Nat)} {sl : List (Option SV)} {st : List SV} {m : Mem} {Q : Option SV → Mem → Prop} {K : Kt}
theorem x_arraylength (hd : decode (mB i) pc = .ok (.arraylength, n - pc)) (hn : okN pc (.arraylength) n = true) (hi : okI i pc (.arraylength) r1 r2 r3 w c cl ts = true) (hK : ∀ p l s m', K p l s m' → smE md i p l s m' Q) (h : st1 md i (pc, .arraylength, n, r1, r2, r3, w, c, cl, ts) sl st m Q K) : smE md i pc sl st m Q := by
  obtain rfl : n = pc + 1 := Nat.eq_of_beq_eq_true hn
  rw [Nat.add_sub_cancel_left] at hd
  simp only [st1, sLen] at h
  split at h
  · rename_i t cn s0
    have hk : (tk t = 1 ∨ tk t = 2 ∨ tk t = 3) ∧ K (pc + 1) sl (vI (nI (ln m t cn)) :: s0) m := by
      split at h
      · exact h.elim
      · exact h.elim
      · rename_i h0 h9
        rw [lnK_eq] at h
        refine ⟨?_, h⟩
        have hz : tk t = 0 ∨ tk t = 1 ∨ tk t = 2 ∨ tk t = 3 ∨ tk t = 9 := by
          unfold tk; split <;> simp
        rcases hz with z | z | z | z | z
        · exact absurd z h0
        · exact Or.inl z
        · exact Or.inr (Or.inl z)
        · exact Or.inr (Or.inr z)
        · exact absurd z h9
    refine E_pure (hK _ _ _ _ hk.2) (fun a b => ⟨a, okS_cons.mpr ⟨trivial, (okS_cons.mp b).2⟩⟩) ?_
    intro l C p e R s mm args below meth cc H locs cells slots ls Qf aL aS aM aF hF hSt hH hS hL hrk hlq k
    obtain ⟨hx, hb, hml, hr, hlk, hnm, hown, hts⟩ := hF
    have hr := (okS_cons.mp aS).1
    have k := k ls hL
    by_cases h60 : t < 60
    · obtain ⟨he, hnx, hrg, h48⟩ := hH.at hr h60
      simp only [List.map_cons, tv_ref h60]
      rcases hk.1 with z | z | z
      · rw [ent_int z] at he
        exact va_alen hx hb hSt.1 hH.2.1 cn 0 he rfl rfl hd k
      · rw [ent_byte z] at he
        exact va_alen hx hb hSt.1 hH.2.1 cn 1 he rfl rfl hd k
      · rw [ent_ref z] at he
        exact va_alen hx hb hSt.1 hH.2.1 cn 2 he rfl rfl hd k
    · have h60 : 60 ≤ t := Nat.le_of_not_lt h60
      simp only [List.map_cons] at k ⊢
      rcases okR_tags hr h60 with ⟨rfl, z⟩ | ⟨rfl, z⟩ | ⟨rfl, z⟩ | ⟨rfl, z⟩ | ⟨rfl, z⟩ | ⟨rfl, z⟩
      · rw [tv_st (by decide) (by decide)]
        exact va_tlen hx hb (hSt.2.2.2.1 cn z).2 hS rfl hd k
      · rcases hk.1 with q | q | q <;> exact absurd q (by decide)
      · rw [tv_st (by decide) (by decide)]
        exact va_tlen hx hb (hSt.2.2.2.2.2.2.2.1 cn z).2.2.2.1 hS rfl hd k
      · subst z
        rw [tv_st (by decide) (by decide)]
        obtain ⟨scr, hsc⟩ := hSt.2.2.2.2.2.2.2.2.1
        exact va_slen hx hb ⟨scr, hsc⟩ (Array.getElem?_eq_some_iff.mp hsc.1).1 hSt.2.2.2.2.2.2.2.2.2 hS hd k
      · rw [tv_st (by decide) (by decide)]
        exact va_tlen hx hb (hSt.2.2.2.2.1 cn z).2 hS rfl hd k
      · rcases hk.1 with q | q | q <;> exact absurd q (by decide)
  · exact h.elim
theorem x_iaload (hd : decode (mB i) pc = .ok (.iaload, n - pc)) (hn : okN pc (.iaload) n = true) (hi : okI i pc (.iaload) r1 r2 r3 w c cl ts = true) (hK : ∀ p l s m', K p l s m' → smE md i p l s m' Q) (h : st1 md i (pc, .iaload, n, r1, r2, r3, w, c, cl, ts) sl st m Q K) : smE md i pc sl st m Q := by
  obtain rfl : n = pc + 1 := Nat.eq_of_beq_eq_true hn
  rw [Nat.add_sub_cancel_left] at hd
  simp only [st1, sAld] at h
  split at h
  · rename_i ix t cn s0
    split at h
    · rename_i htk
      have htk : tk t = 1 := Nat.eq_of_beq_eq_true htk
      split at h
      · rename_i h60 h63
        have h60 : 60 ≤ t := Nat.le_of_ble_eq_true h60
        have h63 : t ≠ 63 := Nat.ne_of_beq_eq_false h63
        rw [lnK_eq] at h
        obtain ⟨hin, h⟩ := h
        refine E_pure (hK _ _ _ _ h) (fun a b => ⟨a, okS_cons.mpr ⟨trivial, (okS_cons.mp (okS_cons.mp b).2).2⟩⟩) ?_
        intro l C p e R s mm args below meth cc H locs cells slots ls Qf aL aS aM aF hF hSt hH hS hL hrk hlq k
        obtain ⟨hx, hb, hml, hr, hlk, hnm, hown, hts⟩ := hF
        have hr := (okS_cons.mp (okS_cons.mp aS).2).1
        have k := k ls hL
        simp only [List.map_cons] at k ⊢
        rcases okR_tags hr h60 with ⟨rfl, z⟩ | ⟨rfl, z⟩ | ⟨rfl, z⟩ | ⟨rfl, z⟩ | ⟨rfl, z⟩ | ⟨rfl, z⟩
        · rw [tv_st (by decide) (by decide)]
          exact va_ti hx hb (hSt.2.2.2.1 cn z).2 hS hin rfl hd k
        · exact absurd htk (by decide)
        · exact absurd htk (by decide)
        · exact absurd rfl h63
        · exact absurd htk (by decide)
        · exact absurd htk (by decide)
      · rename_i hne
        rw [lnK_eq] at h
        obtain ⟨hin, h⟩ := h
        refine E_pure (hK _ _ _ _ h) (fun a b => ⟨a, okS_cons.mpr ⟨trivial, (okS_cons.mp (okS_cons.mp b).2).2⟩⟩) ?_
        intro l C p e R s mm args below meth cc H locs cells slots ls Qf aL aS aM aF hF hSt hH hS hL hrk hlq k
        obtain ⟨hx, hb, hml, hr, hlk, hnm, hown, hts⟩ := hF
        have hr := (okS_cons.mp (okS_cons.mp aS).2).1
        have k := k ls hL
        by_cases h60 : t < 60
        · obtain ⟨he, hnx, hrg, h48⟩ := hH.at hr h60
          rw [ent_int htk] at he
          simp only [List.map_cons, tv_ref h60]
          exact va_iald hx hb hSt.1 hH.2.1 cn 0 he rfl hin hd k
        · have h60 : 60 ≤ t := Nat.le_of_not_lt h60
          have h63 : t = 63 := by
            by_cases q : t = 63
            · exact q
            · exact absurd (Nat.ble_eq_true_of_le h60) (fun y => hne y (by cases hz : Nat.beq t 63 with
              | false => rfl
              | true => exact absurd (Nat.eq_of_beq_eq_true hz) q))
          subst h63
          have z := okR_63 hr
          simp only [List.map_cons] at k ⊢
          subst z
          rw [tv_st (by decide) (by decide)]
          obtain ⟨scr, hsc⟩ := hSt.2.2.2.2.2.2.2.2.1
          exact va_sld hx hb ⟨scr, hsc⟩ (Array.getElem?_eq_some_iff.mp hsc.1).1 hSt.2.2.2.2.2.2.2.2.2 hS hin hd k
    · exact h.elim
  · exact h.elim
theorem x_baload (hd : decode (mB i) pc = .ok (.baload, n - pc)) (hn : okN pc (.baload) n = true) (hi : okI i pc (.baload) r1 r2 r3 w c cl ts = true) (hK : ∀ p l s m', K p l s m' → smE md i p l s m' Q) (h : st1 md i (pc, .baload, n, r1, r2, r3, w, c, cl, ts) sl st m Q K) : smE md i pc sl st m Q := by
  obtain rfl : n = pc + 1 := Nat.eq_of_beq_eq_true hn
  rw [Nat.add_sub_cancel_left] at hd
  simp only [st1, sAld] at h
  split at h
  · rename_i ix t cn s0
    split at h
    · rename_i htk
      have htk : tk t = 2 := Nat.eq_of_beq_eq_true htk
      split at h
      · rename_i h60 h63
        have h60 : 60 ≤ t := Nat.le_of_ble_eq_true h60
        have h63 : t ≠ 63 := Nat.ne_of_beq_eq_false h63
        rw [lnK_eq] at h
        obtain ⟨hin, h⟩ := h
        refine E_pure (hK _ _ _ _ h) (fun a b => ⟨a, okS_cons.mpr ⟨trivial, (okS_cons.mp (okS_cons.mp b).2).2⟩⟩) ?_
        intro l C p e R s mm args below meth cc H locs cells slots ls Qf aL aS aM aF hF hSt hH hS hL hrk hlq k
        obtain ⟨hx, hb, hml, hr, hlk, hnm, hown, hts⟩ := hF
        have hr := (okS_cons.mp (okS_cons.mp aS).2).1
        have k := k ls hL
        simp only [List.map_cons] at k ⊢
        rcases okR_tags hr h60 with ⟨rfl, z⟩ | ⟨rfl, z⟩ | ⟨rfl, z⟩ | ⟨rfl, z⟩ | ⟨rfl, z⟩ | ⟨rfl, z⟩
        · exact absurd htk (by decide)
        · exact absurd htk (by decide)
        · rw [tv_st (by decide) (by decide)]
          exact va_tb hx hb (hSt.2.2.2.2.2.2.2.1 cn z).2.2.2.1 hS hin rfl hd k
        · exact absurd rfl h63
        · rw [tv_st (by decide) (by decide)]
          exact va_tb hx hb (hSt.2.2.2.2.1 cn z).2 hS hin rfl hd k
        · exact absurd htk (by decide)
      · rename_i hne
        rw [lnK_eq] at h
        obtain ⟨hin, h⟩ := h
        refine E_pure (hK _ _ _ _ h) (fun a b => ⟨a, okS_cons.mpr ⟨trivial, (okS_cons.mp (okS_cons.mp b).2).2⟩⟩) ?_
        intro l C p e R s mm args below meth cc H locs cells slots ls Qf aL aS aM aF hF hSt hH hS hL hrk hlq k
        obtain ⟨hx, hb, hml, hr, hlk, hnm, hown, hts⟩ := hF
        have hr := (okS_cons.mp (okS_cons.mp aS).2).1
        have k := k ls hL
        by_cases h60 : t < 60
        · obtain ⟨he, hnx, hrg, h48⟩ := hH.at hr h60
          rw [ent_byte htk] at he
          simp only [List.map_cons, tv_ref h60]
          exact va_bald hx hb hSt.1 hH.2.1 cn 1 he rfl hin hd k
        · have h60 : 60 ≤ t := Nat.le_of_not_lt h60
          have h63 : t = 63 := by
            by_cases q : t = 63
            · exact q
            · exact absurd (Nat.ble_eq_true_of_le h60) (fun y => hne y (by cases hz : Nat.beq t 63 with
              | false => rfl
              | true => exact absurd (Nat.eq_of_beq_eq_true hz) q))
          subst h63
          have z := okR_63 hr
          simp only [List.map_cons] at k ⊢
          exact absurd htk (by decide)
    · exact h.elim
  · exact h.elim
/-- a store in a row of numbers -/
theorem sp_ast {i pc cn N b : Nat} {C : Ctx} {p : Program} {l : Launch} {e : Env} {R : Room} {s : State} {mm : MethodId} {args : Array Value} {below : List Frame} {meth : Method} {cc : Code} {H : Heap} {locs : List Loc} {cells slots : Nat} {Qf : State → Prop} {ls : Array Slot} {rest : List Value} {ws : va_W} {f : Nat → Int32} {ix x : Int32}
    (hx : p.tables.exec = Jvm.exec) (hb : cc.code = mB i) (hd : decode (mB i) pc = .ok (if b = 1 then (.iastore, 1) else (.bastore, 1))) (hK : va_K (cD C) vwCl (cT C) s) (hP : va_P (cD C) vwCl ws H) (hD : va_D (cA C) ws) (hS : va_S (cA C) s.heap H locs)
    (he : ws[cn]? = some (cB0 C + cn, .inl (if b = 1 then cIA C else cBA C, (N, .inl f)))) (hin : vp_in ix N)
    (kk : ∀ (H1 : Heap) (locs1 : List Loc), H1.size = H.size → va_P (cD C) vwCl (ws.set cn (cB0 C + cn, .inl (if b = 1 then cIA C else cBA C, (N, .inl (upd f ix.toNatClampNeg (if b = 1 then x else x.toInt8.toInt32)))))) H1 → va_S (cA C) s.heap H1 locs1 → W p l e R s mm args below meth cc H1 locs1 cells slots Qf (F0 mm (pc + 1) ls rest)) :
    W p l e R s mm args below meth cc H locs cells slots Qf (F0 mm pc ls (.int x :: .int ix :: .ref (cB0 C + cn) :: rest)) := by
  by_cases hb1 : b = 1
  · simp only [if_pos hb1] at hd he kk
    refine W.iast hx hb (hP cn _ he) ((hK.2 0 _ rfl).1 N (fun j => .int (f j))) (fun q => by cases q) (by show ¬ (ix < 0 ∨ (arrV _ _ _).slots.size ≤ _); rw [arrV_size]; exact hin) rfl rfl hd fun H1 e z oq => ?_
    refine kk H1 _ z (hP.set hD he ?_ oq) (hS.put z oq (hD.2 cn _ he))
    show H1[cB0 C + cn]? = some (vp_cell _ _)
    rw [e, vp_cell_i, vp_cell_i, arrV_store]
    congr 2
    funext q
    by_cases hq : q = ix.toNatClampNeg
    · subst hq
      simp [updV, upd]
    · simp [updV, upd, hq]
  · simp only [if_neg hb1] at hd he kk
    refine W.bast hx hb (hP cn _ he) ((hK.2 1 _ rfl).1 N (fun j => .int (f j))) (fun q => by cases q) (by show ¬ (ix < 0 ∨ (arrV _ _ _).slots.size ≤ _); rw [arrV_size]; exact hin) rfl rfl hd fun H1 e z oq => ?_
    refine kk H1 _ z (hP.set hD he ?_ oq) (hS.put z oq (hD.2 cn _ he))
    show H1[cB0 C + cn]? = some (vp_cell _ _)
    rw [e, vp_cell_i, vp_cell_i, arrV_store]
    congr 2
    funext q
    by_cases hq : q = ix.toNatClampNeg
    · subst hq
      simp [updV, upd, narrow]
    · simp [updV, upd, hq]
theorem E_ast {b t cn : Nat} {s0 : List SV} {ix x : Int32} (hb12 : b = 1 ∨ b = 2) (hd : decode (mB i) pc = .ok (if b = 1 then (.iastore, 1) else (.bastore, 1))) (htk : tk t = b) (h60 : t < 60) (hin : vp_in ix (ln m t cn)) (hE : smE md i (pc + 1) sl s0 (sI m t cn ix.toNatClampNeg (if b = 1 then x else x.toInt8.toInt32)) Q) : smE md i pc sl (vI x :: vI ix :: vR (some (t, cn)) :: s0) m Q := by
  refine E_gen 0 0 hE (fun a b c d => ⟨a, (okS_cons.mp (okS_cons.mp (okS_cons.mp b).2).2).2, c, d⟩) (Ext_I h60) rfl rfl ?_
  intro l C p e R s mm args below meth cc H locs cells slots ls Qf aL aS aM aF hF hSt hH hS hL hce hsl hrk hlq k
  obtain ⟨he, hnx, hrg, h48⟩ := hH.at (okS_cons.mp (okS_cons.mp (okS_cons.mp aS).2).2).1 h60
  simp only [List.map_cons, tv_ref h60]
  have hent : ∀ m : Mem, entC C m t cn = .inl (if b = 1 then cIA C else cBA C, (ln m t cn, .inl (gI m t cn))) := by
    intro m
    rcases hb12 with z | z
    · subst z; exact ent_int htk
    · subst z; exact ent_byte htk
  rw [hent] at he
  refine sp_ast (b := b) hF.1 hF.2.1 hd hSt.1 hH.2.1 (ws_D m) hS he hin (fun H1 locs1 z1 hP1 hS1 => k H1 locs1 ls ⟨z1.trans hH.1, ?_, hH.2.2⟩ hS1 hL)
  rw [ws_set (C := C) (m := m) (m' := sI m t cn ix.toNatClampNeg (if b = 1 then x else x.toInt8.toInt32)) rfl ?_ (fun j hj hjn => entC_I _ j hjn)] at hP1
  · exact hP1
  · show entC C (sI m t cn ix.toNatClampNeg (if b = 1 then x else x.toInt8.toInt32)) (rgn m cn) cn = _
    rw [hrg, hent, gI_sI_row]
    rfl
theorem x_iastore (hd : decode (mB i) pc = .ok (.iastore, n - pc)) (hn : okN pc (.iastore) n = true) (hi : okI i pc (.iastore) r1 r2 r3 w c cl ts = true) (hK : ∀ p l s m', K p l s m' → smE md i p l s m' Q) (h : st1 md i (pc, .iastore, n, r1, r2, r3, w, c, cl, ts) sl st m Q K) : smE md i pc sl st m Q := by
  obtain rfl : n = pc + 1 := Nat.eq_of_beq_eq_true hn
  rw [Nat.add_sub_cancel_left] at hd
  simp only [st1, sAst] at h
  split at h
  · rename_i x ix t cn s0
    split at h
    · rename_i h1 h2
      have htk : tk t = 1 := Nat.eq_of_beq_eq_true h1
      have h60 := lt_of_ble h2
      rw [lnK_eq] at h
      exact E_ast (b := 1) (by decide) hd htk h60 h.1 (hK _ _ _ _ h.2)
    · exact h.elim
  · exact h.elim
theorem x_bastore (hd : decode (mB i) pc = .ok (.bastore, n - pc)) (hn : okN pc (.bastore) n = true) (hi : okI i pc (.bastore) r1 r2 r3 w c cl ts = true) (hK : ∀ p l s m', K p l s m' → smE md i p l s m' Q) (h : st1 md i (pc, .bastore, n, r1, r2, r3, w, c, cl, ts) sl st m Q K) : smE md i pc sl st m Q := by
  obtain rfl : n = pc + 1 := Nat.eq_of_beq_eq_true hn
  rw [Nat.add_sub_cancel_left] at hd
  simp only [st1, sAst] at h
  split at h
  · rename_i x ix t cn s0
    split at h
    · rename_i h1 h2
      have htk : tk t = 2 := Nat.eq_of_beq_eq_true h1
      have h60 := lt_of_ble h2
      rw [lnK_eq] at h
      exact E_ast (b := 2) (by decide) hd htk h60 h.1 (hK _ _ _ _ h.2)
    · exact h.elim
  · exact h.elim
end ARR
