theorem Ext_I {m : Mem} {t n k : Nat} {x : Int32} (h : t < 60) : Ext m (sI m t n k x) := by
  refine ⟨Nat.le_refl _, Nat.le_refl _, fun _ z => z, rfl, ?_⟩
  funext q
  exact gI_sI_t (by omega)
theorem Ext_P {m : Mem} {t n k : Nat} {x : Option Rf} : Ext m (sP m t n k x) := ⟨Nat.le_refl _, Nat.le_refl _, fun _ z => z, rfl, rfl⟩
theorem okM_P {m : Mem} {t n k : Nat} {x : Option Rf} (h : okM m) (hx : ∀ a, x = some a → okR m a) : okM (sP m t n k x) := by
  refine ⟨fun t' n' k' a ha => ?_, h.2⟩
  rcases gP_sP_or (m := m) (t := t) (n := n) (k := k) (x := x) t' n' k' with e | e
  · exact hx a (e.symm.trans ha)
  · exact h.1 t' n' k' a (e.symm.trans ha)
theorem FR_P {m : Mem} {t n k : Nat} {x : Option Rf} (h : FRok m) (hf : FR t k n = none) : FRok (sP m t n k x) := by
  intro n' k' a h1 h2 h3
  have e := h n' k' a h1 h2 h3
  have h2 : FR (rgn m n') k' n' = some a := h2
  by_cases hn : n' = n
  · by_cases hk : k' = k
    · by_cases ht : rgn m n' = t
      · rw [ht, hn, hk, hf] at h2; cases h2
      · exact (gP_sP_t ht).trans e
    · exact (gP_sP_k hk).trans e
  · exact (gP_sP_n hn).trans e
theorem nf_ref {C : Ctx} (hq : SQ C) {ty : FieldType} (h : refKind ty = true) (r : Option Rf) : narrow ty (tv C (vR r)) = tv C (vR r) ∧ fits ty (tv C (vR r)) = true := by
  have hv : tv C (vR r) = .null ∨ ∃ a, tv C (vR r) = .ref a := by
    cases r with
    | none => exact Or.inl rfl
    | some a =>
      simp only [tv]
      split
      · exact hq
      · exact Or.inr ⟨_, rfl⟩
  cases ty <;> first | (simp [refKind] at h; done) | (rcases hv with hv | ⟨a, hv⟩ <;> rw [hv] <;> exact ⟨rfl, rfl⟩)
/-- a store in a field: the new heap holds the new fields -/
theorem sp_put {i pc idx r1 r2 r3 w cn : Nat} {C : Ctx} {p : Program} {l : Launch} {e : Env} {R : Room} {s : State} {mm : MethodId} {args : Array Value} {below : List Frame} {meth : Method} {cc : Code} {H : Heap} {locs : List Loc} {cells slots : Nat} {Qf : State → Prop} {ls : Array Slot} {rest : List Value} {ws : va_W} {fs : List Value} {v : Value}
    (hcn : cN (mO i) = (mN i).cls) (h282 : i < 282) (hd : decode (mB i) pc = .ok (.putfield idx, 3)) (hft : FTok (mO i, idx, r1, r2, r3, w)) (hr8 : r1 < 8) (hr2 : r2 < nf r1) (hfin : (fT r1 r2).2.2.2 = false ∨ (isIn0 i = true ∧ r1 = mO i))
    (hF : Fix i p s mm args meth cc) (hK : va_K (cD C) vwCl (cT C) s) (hNW : ∀ w ∈ NW, va_Nw w s) (hP : va_P (cD C) vwCl ws H) (hD : va_D (cA C) ws) (hS : va_S (cA C) s.heap H locs) (he : ws[cn]? = some (cB0 C + cn, .inr (r1, fs))) (hl : fs.length = nf r1)
    (hn : narrow (tyT r1 r2) v = v) (hf : fits (tyT r1 r2) v = true)
    (kk : ∀ (H1 : Heap) (locs1 : List Loc), H1.size = H.size → va_P (cD C) vwCl (ws.set cn (cB0 C + cn, .inr (r1, fs.set r2 v))) H1 → va_S (cA C) s.heap H1 locs1 → W p l e R s mm args below meth cc H1 locs1 cells slots Qf (F0 mm (pc + 3) ls rest)) :
    W p l e R s mm args below meth cc H locs cells slots Qf (F0 mm pc ls (v :: .ref (cB0 C + cn) :: rest)) := by
  obtain ⟨hx, hb, hml, hr, hlk, hnm, hown, hts⟩ := hF
  have hap := va_apart (own := (mN i).cls) hts (lay_in hr8) (tyT r1) (tyT_ok hr8) (nmT hr8) hK (vw_at hr8)
  obtain ⟨r, h1, cell, q1, q2, q3, q4⟩ := hP cn _ he
  have hrr : r = (cN r1, fT r1, nf r1) := Option.some.inj (h1.symm.trans (vw_at hr8))
  subst hrr
  obtain ⟨hSl, hfc, kC, hkC, hkind⟩ := hK.1 r1 _ (vw_at hr8)
  obtain ⟨cf, kf, fi, f, hfi, hsl⟩ := hSl r2 hr2
  have hlay := hts _ (lay_in hr8 _ (u_in_lay hr2))
  have hst := (u_facts hfc hkC (u_lays hts (lay_in hr8) hr2) hfi).1
  have fin : ∀ H1 : Heap, H1[cB0 C + cn]? = some (cell.setSlot f.slot v) → H1.size = H.size → (∀ q, q ≠ cB0 C + cn → H1[q]? = H[q]?) → W p l e R s mm args below meth cc H1 (locs ++ [⟨cB0 C + cn, f.slot⟩]) cells slots Qf (F0 mm (pc + 3) ls rest) := fun H1 e1 e2 e3 => by
    rw [hsl] at e1 ⊢
    exact kk H1 _ e2 (hP.set hD he ⟨_, vw_at hr8, t_OB.to (V := updV (vp_V fs) r2 v) ⟨_, e1, q2, q3, t_set q4 hap hr2 v⟩ (fun j _ => vp_updV_set (by rw [hl]; exact hr2) v j)⟩ e3) (hS.put e2 e3 (hD.2 cn _ he))
  have hslt : f.slot < cell.slots.size := by rw [hsl]; exact k2_hasslot (q4 r2 hr2)
  unfold u_lay at hlay
  by_cases hfn : (fT r1 r2).2.2.2 = false
  · rw [if_neg (by rw [hfn]; decide)] at hlay
    have h6 := u_store hfc hkC hkind hlay hfi (tyT_ok hr8 r2 hr2) hn hf
    rcases flink hcn hts hNW hft with hl | hl
    · exact W.putK hx hb (f := f) ⟨hown, hl, ⟨_, _, _, hfi⟩, hst⟩ (by rw [q2]; exact h6) q1 q3 hslt rfl rfl hd fin
    · exact va_WputK hx hb (f := f) hown hl hfi hst (by rw [q2]; exact h6) q1 q3 hslt rfl rfl hd fin
  · obtain ⟨hin, hro⟩ := hfin.resolve_left hfn
    have hfn : (fT r1 r2).2.2.2 = true := by simpa using hfn
    rw [if_pos hfn] at hlay
    have hdecl : (fT r1 r2).1 = cN r1 := by
      have h : ∀ c, c < 8 → ∀ k, k < nf c → (fT c k).2.2.2 = true → (fT c k).1 = cN c := by decide +kernel
      exact h r1 hr8 r2 hr2 hfn
    have hcf : mm.cls = cf := by
      obtain ⟨_, _, c', _, _, _, -, -, hf', -, -, -, hown2, -⟩ := Cond.laysFinal_spec hlay
      have e1 : c' = cf := by have := hfi.symm.trans hf'; simp at this; exact this.1.symm
      rw [hdecl, hro, hcn] at hown2
      rw [← e1]; exact Option.some.inj (hown.symm.trans hown2)
    have h6 := u_fits hfc hkC hkind (Or.inr hlay) hfi (tyT_ok hr8 r2 hr2) hn hf
    rcases flink hcn hts hNW hft with hl | hl
    · exact W.putFinK hx hb hown hl hfi hst hcf (hnm.trans (isIn0_ok i h282 hin)) (by rw [q2]; exact h6) q1 q3 hslt rfl rfl hd fin
    · have ha : cB0 C + cn < H.size := (Array.getElem?_eq_some_iff.mp q1).1
      refine va_Wputf hx hb hown hl hfi hst (Or.inr ⟨hcf, hnm.trans (isIn0_ok i h282 hin)⟩) q1 (by rw [q3]; exact fun h => by cases h) hslt h6.1 (by rw [q3, q2]; exact h6.2) rfl rfl hd (fin _ ?_ ?_ ?_)
      · simp [Array.getElem?_setIfInBounds, ha]
      · simp
      · intro q hq
        simp [Array.getElem?_setIfInBounds, Ne.symm hq]
section MEM
variable {md : Bool} {i pc n r1 r2 r3 w : Nat} {c : Int32} {cl : Int64} {ts : List (Int32 × Nat)} {sl : List (Option SV)} {st : List SV} {m : Mem} {Q : Option SV → Mem → Prop} {K : Kt}
theorem E_putI {idx t cn : Nat} {s0 : List SV} (hcn : cN (mO i) = (mN i).cls) (h282 : i < 282) (hd : decode (mB i) pc = .ok (.putfield idx, 3)) (hft : FTok (mO i, idx, r1, r2, r3, w)) (htc : tc t = r1) (h60 : t < 60) (hr8 : r1 < 8) (hr2 : r2 < nf r1) (hfin : (fT r1 r2).2.2.2 = false ∨ (isIn0 i = true ∧ r1 = mO i)) {x : Int32} (hty : ft r1 r2 ≠ 3) (hn : narrow (tyT r1 r2) (.int x) = .int x) (hf : fits (tyT r1 r2) (.int x) = true) (hE : smE md i (pc + 3) sl s0 (sI m t cn r2 x) Q) : smE md i pc sl (vI x :: vR (some (t, cn)) :: s0) m Q := by
  refine E_gen 0 0 hE (fun a b c d => ⟨a, (okS_cons.mp (okS_cons.mp b).2).2, c, d⟩) (Ext_I h60) rfl rfl ?_
  intro l C p e R s mm args below meth cc H locs cells slots ls Qf aL aS aM aF hF hSt hH hS hL hce hsl hrk hlq k
  obtain ⟨he, hnx, hrg, h48⟩ := hH.at (okS_cons.mp (okS_cons.mp aS).2).1 h60
  rw [ent_obj (tc_tk t h60 r1 hr8 htc), htc] at he
  simp only [List.map_cons, tv_ref h60]
  refine sp_put hcn h282 hd hft hr8 hr2 hfin hF hSt.1 hSt.2.1 hH.2.1 (ws_D m) hS he (by simp) hn hf (fun H1 locs1 z1 hP1 hS1 => k H1 locs1 ls ⟨z1.trans hH.1, ?_, hH.2.2⟩ hS1 hL)
  rw [ws_set (C := C) (m := m) (m' := sI m t cn r2 x) rfl ?_ (fun j hj hjn => entC_I _ j hjn)] at hP1
  · exact hP1
  · show entC C (sI m t cn r2 x) (rgn m cn) cn = _
    rw [hrg, ent_obj (tc_tk t h60 r1 hr8 htc)]
    subst htc
    exact congrArg (fun z => Sum.inr (tc t, z)) (fs_set_I (x := x) hty).symm
theorem E_putP {idx t cn : Nat} {s0 : List SV} (hcn : cN (mO i) = (mN i).cls) (h282 : i < 282) (hd : decode (mB i) pc = .ok (.putfield idx, 3)) (hft : FTok (mO i, idx, r1, r2, r3, w)) (htc : tc t = r1) (h60 : t < 60) (hr8 : r1 < 8) (hr2 : r2 < nf r1) (hfin : (fT r1 r2).2.2.2 = false ∨ (isIn0 i = true ∧ r1 = mO i)) {x : Option Rf} (hty : ft r1 r2 = 3) (hfr : md = true → FR t r2 cn = none) (hE : smE md i (pc + 3) sl s0 (sP m t cn r2 x) Q) : smE md i pc sl (vR x :: vR (some (t, cn)) :: s0) m Q := by
  refine E_gen 0 0 hE (fun a b c d => ⟨a, (okS_cons.mp (okS_cons.mp b).2).2, okM_P c (fun a e => by subst e; exact (okS_cons.mp b).1), fun z => FR_P (d z) (hfr z)⟩) Ext_P rfl rfl ?_
  intro l C p e R s mm args below meth cc H locs cells slots ls Qf aL aS aM aF hF hSt hH hS hL hce hsl hrk hlq k
  obtain ⟨he, hnx, hrg, h48⟩ := hH.at (okS_cons.mp (okS_cons.mp aS).2).1 h60
  rw [ent_obj (tc_tk t h60 r1 hr8 htc), htc] at he
  simp only [List.map_cons, tv_ref h60]
  have hrk : refKind (tyT r1 r2) = true := by
    rcases ft_ty r1 hr8 r2 hr2 with z | z | z | z
    · exact absurd (z.1.symm.trans hty) (by decide)
    · exact absurd (z.1.symm.trans hty) (by decide)
    · exact absurd (z.1.symm.trans hty) (by decide)
    · exact z.2
  have hnf := nf_ref hSt.sq hrk x
  refine sp_put hcn h282 hd hft hr8 hr2 hfin hF hSt.1 hSt.2.1 hH.2.1 (ws_D m) hS he (by simp) hnf.1 hnf.2 (fun H1 locs1 z1 hP1 hS1 => k H1 locs1 ls ⟨z1.trans hH.1, ?_, okM_P hH.2.2 (fun a e => by subst e; exact (okS_cons.mp aS).1)⟩ hS1 hL)
  rw [ws_set (C := C) (m := m) (m' := sP m t cn r2 x) rfl ?_ (fun j hj hjn => entC_P _ j hjn)] at hP1
  · exact hP1
  · show entC C (sP m t cn r2 x) (rgn m cn) cn = _
    rw [hrg, ent_obj (tc_tk t h60 r1 hr8 htc)]
    subst htc
    rw [fs_set_P hty]
theorem x_putfield {idx : Nat} (hcn : cN (mO i) = (mN i).cls) (h282 : i < 282) (hd : decode (mB i) pc = .ok (.putfield idx, n - pc)) (hn : okN pc (.putfield idx) n = true) (hi : okI i pc (.putfield idx) r1 r2 r3 w c cl ts = true) (hK : ∀ p l s m', K p l s m' → smE md i p l s m' Q) (h : st1 md i (pc, .putfield idx, n, r1, r2, r3, w, c, cl, ts) sl st m Q K) : smE md i pc sl st m Q := by
  obtain rfl : n = pc + 3 := Nat.eq_of_beq_eq_true hn
  rw [Nat.add_sub_cancel_left] at hd
  obtain ⟨hft, hr8, hr2, hty, hfin⟩ := okI_put hi
  simp only [st1, sPut] at h
  split at h
  · rename_i x t cn s0
    split at h
    · rename_i h1 h2
      have htc : tc t = r1 := Nat.eq_of_beq_eq_true h1
      have h60 := lt_of_ble h2
      have ht : tyT r1 r2 = .int := by
        rcases ft_ty r1 hr8 r2 hr2 with z | z | z | z <;> first | exact z.2 | exact absurd (z.1.symm.trans hty) (by decide)
      exact E_putI hcn h282 hd hft htc h60 hr8 hr2 hfin (by rw [hty]; decide) (by rw [ht]; rfl) (by rw [ht]; rfl) (hK _ _ _ _ h)
    · exact h.elim
  · rename_i x t cn s0
    split at h
    · rename_i h1 h2
      have htc : tc t = r1 := Nat.eq_of_beq_eq_true h1
      have h60 := lt_of_ble h2
      have ht : tyT r1 r2 = .boolean := by
        rcases ft_ty r1 hr8 r2 hr2 with z | z | z | z <;> first | exact z.2 | exact absurd (z.1.symm.trans hty) (by decide)
      exact E_putI hcn h282 hd hft htc h60 hr8 hr2 hfin (by rw [hty]; decide) (by rw [ht]; rcases h.1 with z | z <;> subst z <;> rfl) (by rw [ht]; rcases h.1 with z | z <;> subst z <;> rfl) (hK _ _ _ _ h.2)
    · exact h.elim
  · rename_i x t cn s0
    split at h
    · rename_i h1 h2
      have htc : tc t = r1 := Nat.eq_of_beq_eq_true h1
      have h60 := lt_of_ble h2
      have ht : tyT r1 r2 = .byte := by
        rcases ft_ty r1 hr8 r2 hr2 with z | z | z | z <;> first | exact z.2 | exact absurd (z.1.symm.trans hty) (by decide)
      exact E_putI hcn h282 hd hft htc h60 hr8 hr2 hfin (by rw [hty]; decide) (by rw [ht, ← h.1]; exact pk_nb _) (by rw [ht, ← h.1]; exact pk_fb _) (hK _ _ _ _ h.2)
    · exact h.elim
  · rename_i r t cn s0
    split at h
    · rename_i h1 h2
      have htc : tc t = r1 := Nat.eq_of_beq_eq_true h1
      have h60 := lt_of_ble h2
      split at h
      · exact E_putP hcn h282 hd hft htc h60 hr8 hr2 hfin hty (fun z => by cases z) (hK _ _ _ _ h)
      · split at h
        · exact h.elim
        · rename_i hf
          exact E_putP hcn h282 hd hft htc h60 hr8 hr2 hfin hty (fun _ => hf) (hK _ _ _ _ h)
    · exact h.elim
  · exact h.elim
end MEM
