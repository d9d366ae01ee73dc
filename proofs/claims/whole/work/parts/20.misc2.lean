theorem okV_al {m : Mem} {t z : Nat} {v : SV} (h : okV m v) : okV (al m t z) v := by
  match v, h with
  | .inl _, _ => trivial
  | .inr (.inl _), _ => trivial
  | .inr (.inr none), _ => trivial
  | .inr (.inr (some a)), q => exact okR_al q
theorem cA_newN {C : Ctx} {L : Nat} {xs : Nat → Int32} {s : State} (h : Sta C L xs s) {cA0 : ClassId} (hn : s.vm.findClass ("[" ++ (FieldType.object RX0).toString) = some cA0) : cA0 = cNA C := by
  obtain ⟨kA, comp, -, -, -, h4⟩ := (h.1.2 2 _ rfl).2
  exact Option.some.inj (hn.symm.trans h4)
theorem sp_astq {p : Program} {l : Launch} {e : Env} {R : Room} {s : State} {m : MethodId} {args : Array Value} {below : List Frame} {meth : Method} {c : Code} {H : Heap} {locs : List Loc} {cells slots : Nat} {Q : State → Prop} {cc : ByteArray} {pc : Nat} {ls : Array Slot} {rest : List Value} {D : va_G} {cl : List vw_C} {A : Nat → Prop} {a : Nat} {tys : List (ClassId × FieldType)} {ws : va_W} {H0 : Heap}
    (hexec : p.tables.exec = Jvm.exec) (hb : c.code = cc) (hK : va_K D cl tys s) (hP : va_P D cl ws H) (hD : va_D A ws) (hS : va_S A H0 H locs) (q0 t0 qk ci : Nat) {c0 : ClassId} {r : vw_C} {n v : Nat} {vs : List Value} {f : Nat → Option Nat} (ha : ws[q0]? = some (a, .inl (c0, n, .inr (.inr (.inr (.inr f)))))) (ht : tys[t0]? = some (c0, .object r.1)) (hv : ws[qk]? = some (v, .inr (ci, vs))) (hc : cl[ci]? = some r) {i : Int32} (hin : vp_in i n) (hdg : decode cc pc = .ok (.aastore, 1))
    (kk : ∀ (H1 : Heap) (locs1 : List Loc), H1.size = H.size → va_P D cl (ws.set q0 (a, .inl (c0, n, .inr (.inr (.inr (.inr (va_up f i.toNatClampNeg (some v)))))))) H1 → va_S A H0 H1 locs1 → W p l e R s m args below meth c H1 locs1 cells slots Q (F0 m (pc + 1) ls rest)) : W p l e R s m args below meth c H locs cells slots Q (F0 m pc ls (.ref v :: .int i :: .ref a :: rest)) := by
  have hlt : i.toNatClampNeg < n := Nat.not_le.mp fun q => hin (Or.inr q)
  have h0 : ¬ i < 0 := fun q => hin (Or.inl q)
  obtain ⟨r', hr', cellV, g1, g2, g3, -⟩ := hP qk _ hv
  have hcls := (hK.1 ci r hc).2
  obtain ⟨kA, comp, k1, k2, k3, -⟩ := (hK.2 t0 _ ht).2
  have hcomp : comp = D.1 ci := Option.some.inj (k3.symm.trans hcls.1)
  subst hcomp
  obtain ⟨kC, hkC, -⟩ := hcls.2
  refine W.aast hexec hb (hP q0 _ ha) (fun q h => by cases h) (fun h => by cases h) k1 k2 rfl hkC ⟨h0, by show _ < (arrV _ _ _).slots.size; rw [arrV_size]; exact hlt⟩ g1 (fun q h => by rw [g3] at h; cases h) (by rw [g2]; exact hkC) (by rw [g2]; exact va_assign hcls) rfl rfl hdg fun H1 e z oq => ?_
  refine kk H1 _ z (hP.set hD ha ?_ oq) (hS.put z oq (hD.2 q0 _ ha))
  show H1[a]? = some (vp_cell _ _)
  rw [e, vp_cell_q, vp_cell_q, arrV_store]
  congr 2
  funext q
  by_cases hq : q = i.toNatClampNeg
  · subst hq
    simp [updV, va_up, va_rf]
  · simp [updV, va_up, hq]
section MISC2
variable {md : Bool} {i pc n r1 r2 r3 w : Nat} {c : Int32} {cl : Int64} {ts : List (Int32 × Nat)} {sl : List (Option SV)} {st : List SV} {m : Mem} {Q : Option SV → Mem → Prop} {K : Kt}
theorem x_new {idx : Nat} (hcn : cN (mO i) = (mN i).cls) (hd : decode (mB i) pc = .ok (.new idx, n - pc)) (hn : okN pc (.new idx) n = true) (hi : okI i pc (.new idx) r1 r2 r3 w c cl ts = true) (hK : ∀ p l s m', K p l s m' → smE md i p l s m' Q) (h : st1 md i (pc, .new idx, n, r1, r2, r3, w, c, cl, ts) sl st m Q K) : smE md i pc sl st m Q := by
  obtain rfl : n = pc + 3 := Nat.eq_of_beq_eq_true hn
  rw [Nat.add_sub_cancel_left] at hd
  simp only [okI, Bool.and_eq_true, List.contains_iff_mem] at hi
  have hnt := NT_ok _ hi.1
  have hr8 : r1 < 8 := Nat.lt_succ_of_le (Nat.le_of_ble_eq_true hi.2)
  simp only [st1, sNew] at h
  split at h
  · rename_i h1
    simp only [Bool.and_eq_true] at h1
    have htc : tc r2 = r1 := Nat.eq_of_beq_eq_true h1.2
    have h60 : r2 < 60 := Nat.lt_of_not_le (fun z => tc_big8 r2 z (htc ▸ hr8))
    have htk := tc_tk r2 h60 r1 hr8 htc
    have h48 : r2 < 48 := by
      have h : ∀ t, t < 60 → tk t < 9 → t < 48 := by decide +kernel
      exact h r2 h60 (by omega)
    refine E_gen 1 (nf r1) (hK _ _ _ _ h) (fun a b c d => ⟨fun v hv => okV_al (a v hv), okS_cons.mpr ⟨okR_new h60, fun v hv => okV_al (b v hv)⟩, okM_al c h48 (by omega), fun q => FR_al (d q) (okTag_ok h1.1 q)⟩) Ext_al rfl rfl ?_
    intro l C p e R s mm args below meth cc H locs cells slots ls Qf aL aS aM aF hF hSt hH hS hL hce hsl hrk hlq k
    obtain ⟨hx, hcb, hml, hr, hlk, hnm, hown, hts⟩ := hF
    simp only [List.map_cons] at k ⊢
    rw [tv_ref h60] at k
    obtain ⟨w1, hw1⟩ := inst_ok r1 hr8
    obtain ⟨w2, hw2⟩ := init_ok r1 hr8
    have hKn := hSt.1.1 r1 _ (vw_at hr8)
    simp only [NTok, hcn] at hnt
    refine W.newcK hx hcb hown (hts _ (tw hnt rfl)) (hts _ (tw hw1 rfl)) (hts _ (tw hw2 rfl)) rfl hd hce hsl hKn.2.1 hH.1 fun H1 kC hkC e1 z1 o1 => ?_
    refine k H1 locs ls (HR_al hH h48 (by omega) (by rw [z1, hH.1]) (fun q hq => o1 q (by rw [← hH.1]; exact hq)) ?_) (va_S_al hS (by rw [z1, hH.1]) (fun q hq => o1 q (by rw [← hH.1]; exact hq))) hL
    rw [ent_obj htk, htc]
    refine ⟨_, vw_at hr8, (u_born (tyT r1) hts (lay_in hr8) hKn hkC e1 (tyT_ok hr8)).to (fun j hj => ?_)⟩
    rw [dv_ok r1 hr8 j hj]
    simp only [vp_V, List.getD_eq_getElem?_getD, List.getElem?_map, List.getElem?_range hj, Option.map_some, Option.getD_some, fv, htc]
    rw [gI_new h60, gP_new]
    split <;> rfl
  · exact h.elim
theorem x_anewarray {idx : Nat} (hcn : cN (mO i) = (mN i).cls) (hd : decode (mB i) pc = .ok (.anewarray idx, n - pc)) (hn : okN pc (.anewarray idx) n = true) (hi : okI i pc (.anewarray idx) r1 r2 r3 w c cl ts = true) (hK : ∀ p l s m', K p l s m' → smE md i p l s m' Q) (h : st1 md i (pc, .anewarray idx, n, r1, r2, r3, w, c, cl, ts) sl st m Q K) : smE md i pc sl st m Q := by
  obtain rfl : n = pc + 3 := Nat.eq_of_beq_eq_true hn
  rw [Nat.add_sub_cancel_left] at hd
  simp only [okI, Bool.and_eq_true, List.contains_iff_mem] at hi
  have hnt := NT_ok _ hi.1
  obtain rfl : r2 = 11 := Nat.eq_of_beq_eq_true hi.2
  simp only [st1, sNewa] at h
  split at h
  · rename_i x s0
    split at h
    · rename_i h1
      have htag : okTag md 11 = true := by simp only [Bool.and_eq_true] at h1; exact h1.1
      have hmd : md = false := by
        cases md with
        | false => rfl
        | true => exact absurd (okTag_ok htag rfl) (by decide)
      have h : (¬ x < 0 ∧ x.toNatClampNeg = 49) ∧ K (pc + 3) sl (vR (some (11, nX m)) :: s0) (al m 11 49) := h
      refine E_gen 1 49 (hK _ _ _ _ h.2) (fun a b c d => ⟨fun v hv => okV_al (a v hv), okS_cons.mpr ⟨okR_new (by decide), fun v hv => okV_al ((okS_cons.mp b).2 v hv)⟩, okM_al c (by decide) (by decide), fun q => by rw [hmd] at q; cases q⟩) Ext_al rfl rfl ?_
      intro l C p e R s mm args below meth cc H locs cells slots ls Qf aL aS aM aF hF hSt hH hS hL hce hsl hrk hlq k
      obtain ⟨hx, hcb, hml, hr, hlk, hnm, hown, hts⟩ := hF
      simp only [List.map_cons] at k ⊢
      rw [tv_ref (by decide)] at k
      simp only [NTok, hcn] at hnt
      refine W.anew hx hcb hown (hts _ (tw hnt rfl)) (va_AO.use hSt.2.2.1) rfl hd rfl h.1.1 (by rw [h.1.2]; decide) hce (by rw [h.1.2]; exact hsl) fun c0 kA comp f1 f2 f3 f4 => ?_
      have hc0 := cA_newN hSt f1
      subst hc0
      rw [h.1.2, hH.1]
      refine k _ locs ls (HR_al hH (by decide) (by decide) (by simp) (fun q hq => by rw [Array.getElem?_push, if_neg (Nat.ne_of_lt hq)]) ?_) (va_S_al hS (by simp) (fun q hq => by rw [Array.getElem?_push, if_neg (Nat.ne_of_lt hq)])) hL
      rw [ent_ref rfl, gP_new, ln_new (by decide) (Or.inl rfl)]
      show (H.push _)[cB0 C + nX m]? = some (vp_cell _ _)
      rw [← hH.1, Array.getElem?_push_size, vp_cell_q]
      rw [show (fun j : Nat => va_rf (Option.map (adr C) none)) = (fun _ => Value.null) from rfl, ← arrV_new]
    · exact h.elim
  · exact h.elim
theorem x_aaload (hd : decode (mB i) pc = .ok (.aaload, n - pc)) (hn : okN pc (.aaload) n = true) (hi : okI i pc (.aaload) r1 r2 r3 w c cl ts = true) (hK : ∀ p l s m', K p l s m' → smE md i p l s m' Q) (h : st1 md i (pc, .aaload, n, r1, r2, r3, w, c, cl, ts) sl st m Q K) : smE md i pc sl st m Q := by
  obtain rfl : n = pc + 1 := Nat.eq_of_beq_eq_true hn
  rw [Nat.add_sub_cancel_left] at hd
  simp only [st1, sAald] at h
  split at h
  · rename_i ix t cn s0
    split at h
    · rename_i h11
      obtain rfl : t = 11 := Nat.eq_of_beq_eq_true h11
      obtain ⟨hin, h⟩ := h
      intro b1 b2 b3 b4
      have hr0 := (okS_cons.mp (okS_cons.mp b2).2).1
      have hlt : ix.toNatClampNeg < 49 := Nat.not_le.mp fun q => hin (Or.inr q)
      have hg := b4 rfl cn ix.toNatClampNeg (8, cn + 2 + 2 * ix.toNatClampNeg) (hr0.1 (by decide : (11 : Nat) < 60)).1 (by rw [(hr0.1 (by decide : (11 : Nat) < 60)).2]; rfl) (fun _ => hlt)
      rw [(hr0.1 (by decide : (11 : Nat) < 60)).2] at hg
      refine E_pure (hK _ _ _ _ h) (fun a b => ⟨a, okS_cons.mpr ⟨b3.1 _ _ _ _ hg, (okS_cons.mp (okS_cons.mp b).2).2⟩⟩) ?_ b1 b2 b3 b4
      intro l C p e R s mm args below meth cc H locs cells slots ls Qf aL aS aM aF hF hSt hH hS hL hrk hlq k
      obtain ⟨hx, hb, hml, hr, hlk, hnm, hown, hts⟩ := hF
      obtain ⟨he, hnx, hrg, h48⟩ := hH.at hr0 (by decide)
      rw [ent_ref rfl] at he
      have k := k ls hL
      simp only [List.map_cons] at k ⊢
      rw [tv_ref (by decide)] at k ⊢
      refine va_aldq hx hb hSt.1 hH.2.1 cn 2 he rfl hin hd ?_
      rw [show (gP m 11 cn ix.toNatClampNeg).map (adr C) = some (cB0 C + (cn + 2 + 2 * ix.toNatClampNeg)) by rw [show gP m 11 cn ix.toNatClampNeg = _ from hg]; rfl]
      exact k
    · exact h.elim
  · exact h.elim
theorem x_aastore (hd : decode (mB i) pc = .ok (.aastore, n - pc)) (hn : okN pc (.aastore) n = true) (hi : okI i pc (.aastore) r1 r2 r3 w c cl ts = true) (hK : ∀ p l s m', K p l s m' → smE md i p l s m' Q) (h : st1 md i (pc, .aastore, n, r1, r2, r3, w, c, cl, ts) sl st m Q K) : smE md i pc sl st m Q := by
  obtain rfl : n = pc + 1 := Nat.eq_of_beq_eq_true hn
  rw [Nat.add_sub_cancel_left] at hd
  simp only [st1, sAast] at h
  split at h
  · rename_i q ix t cn s0
    split at h
    · rename_i h11
      obtain rfl : t = 11 := Nat.eq_of_beq_eq_true h11
      obtain ⟨hin, h⟩ := h
      have hlt : ix.toNatClampNeg < 49 := Nat.not_le.mp fun q => hin (Or.inr q)
      have h0 : ¬ ix < 0 := fun q => hin (Or.inl q)
      refine E_gen 0 0 (hK _ _ _ _ h) (fun a b c d => ⟨a, (okS_cons.mp (okS_cons.mp (okS_cons.mp b).2).2).2, okM_P c (fun a e => by cases e; exact (okS_cons.mp b).1), fun z => by cases z⟩) Ext_P rfl rfl ?_
      intro l C p e R s mm args below meth cc H locs cells slots ls Qf aL aS aM aF hF hSt hH hS hL hce hsl hrk hlq k
      obtain ⟨hx, hb, hml, hr, hlk, hnm, hown, hts⟩ := hF
      obtain ⟨he, hnx, hrg, h48⟩ := hH.at (okS_cons.mp (okS_cons.mp (okS_cons.mp aS).2).2).1 (by decide)
      obtain ⟨hv, hnx2, hrg2, -⟩ := hH.at (okS_cons.mp aS).1 (by decide)
      rw [ent_ref rfl] at he
      rw [ent_obj rfl] at hv
      simp only [List.map_cons]
      rw [tv_ref (by decide), tv_ref (by decide)]
      refine sp_astq (r := (cN 1, fT 1, nf 1)) hx hb hSt.1 hH.2.1 (ws_D m) hS cn 2 q 1 he rfl hv (vw_at (by decide)) hin hd fun H1 locs1 z hP1 hS1 => ?_
      refine k H1 locs1 ls ⟨z.trans hH.1, ?_, okM_P hH.2.2 (fun a e => by cases e; exact (okS_cons.mp aS).1)⟩ hS1 hL
      rw [ws_set (C := C) (m := m) (m' := sP m 11 cn ix.toNatClampNeg (some (8, q))) rfl ?_ (fun j hj hjn => entC_P _ j hjn)] at hP1
      · exact hP1
      · show entC C (sP m 11 cn ix.toNatClampNeg (some (8, q))) (rgn m cn) cn = _
        rw [hrg, ent_ref rfl]
        have hf : (fun k => Option.map (adr C) (gP (sP m 11 cn ix.toNatClampNeg (some (8, q))) 11 cn k)) = va_up (fun k => (gP m 11 cn k).map (adr C)) ix.toNatClampNeg (some (cB0 C + q)) := by
          funext j
          by_cases hj : j = ix.toNatClampNeg
          · subst hj
            rw [gP_sP_same]
            simp [va_up, adr]
          · rw [gP_sP_k hj]
            simp [va_up, hj]
        rw [hf]
        rfl
    · exact h.elim
  · exact h.elim
theorem x_lreturn (hd : decode (mB i) pc = .ok (.lreturn, n - pc)) (hn : okN pc (.lreturn) n = true) (hi : okI i pc (.lreturn) r1 r2 r3 w c cl ts = true) (hK : ∀ p l s m', K p l s m' → smE md i p l s m' Q) (h : st1 md i (pc, .lreturn, n, r1, r2, r3, w, c, cl, ts) sl st m Q K) : smE md i pc sl st m Q := by
  obtain rfl : n = pc + 1 := Nat.eq_of_beq_eq_true hn
  rw [Nat.add_sub_cancel_left] at hd
  simp only [st1] at h
  split at h
  · exact E_lret hd (by assumption) h.2
  · exact h.elim
theorem x_return_ (hd : decode (mB i) pc = .ok (.return_, n - pc)) (hn : okN pc (.return_) n = true) (hi : okI i pc (.return_) r1 r2 r3 w c cl ts = true) (hK : ∀ p l s m', K p l s m' → smE md i p l s m' Q) (h : st1 md i (pc, .return_, n, r1, r2, r3, w, c, cl, ts) sl st m Q K) : smE md i pc sl st m Q := by
  obtain rfl : n = pc + 1 := Nat.eq_of_beq_eq_true hn
  rw [Nat.add_sub_cancel_left] at hd
  simp only [st1] at h
  split at h
  · exact E_vret hd (by assumption) h.2
  · exact h.elim
theorem x_areturn (hd : decode (mB i) pc = .ok (.areturn, n - pc)) (hn : okN pc (.areturn) n = true) (hi : okI i pc (.areturn) r1 r2 r3 w c cl ts = true) (hK : ∀ p l s m', K p l s m' → smE md i p l s m' Q) (h : st1 md i (pc, .areturn, n, r1, r2, r3, w, c, cl, ts) sl st m Q K) : smE md i pc sl st m Q := by
  obtain rfl : n = pc + 1 := Nat.eq_of_beq_eq_true hn
  rw [Nat.add_sub_cancel_left] at hd
  simp only [st1] at h
  split at h
  · exact E_aret hd (by assumption) (Or.inl ⟨_, rfl⟩) h.2
  · exact E_aret hd (by assumption) (Or.inr ⟨_, rfl⟩) h.2
  · exact h.elim
end MISC2
