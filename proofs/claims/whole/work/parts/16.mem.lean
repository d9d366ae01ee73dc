theorem mO_ok : ∀ i, i < 282 → cN (mO i) = (mN i).cls := by decide +kernel
theorem tv_ref {C : Ctx} {t n : Nat} (h : t < 60) : tv C (vR (some (t, n))) = .ref (cB0 C + n) := by
  show (if t = 65 then cSQ C else Value.ref (adr C (t, n))) = _
  rw [if_neg (by omega)]
  simp [adr, h]
theorem tv_st {C : Ctx} {t n : Nat} (h : 60 ≤ t) (h2 : t ≠ 65) : tv C (vR (some (t, n))) = .ref (cSA C t n) := by
  show (if t = 65 then cSQ C else Value.ref (adr C (t, n))) = _
  rw [if_neg h2]
  simp [adr, Nat.not_lt.mpr h]
theorem flink {i idx c k ty w : Nat} {args : Array Value} {s : State} (hc : cN (mO i) = (mN i).cls) (hts : ∀ w ∈ GW, w.before args s = true) (hnw : ∀ w ∈ NW, va_Nw w s) (h : FTok (mO i, idx, c, k, ty, w)) :
    (Cond.fieldLink (mN i).cls idx (fT c k).1 (fT c k).2.1 (fT c k).2.2.1).before args s = true ∨ (Cond.fieldLinkNest (mN i).cls idx (fT c k).1 (fT c k).2.1 (fT c k).2.2.1 "OrnamentsOut").before args s = true := by
  rcases h with h | h
  · rw [hc] at h
    exact Or.inl (hts _ (tw h rfl))
  · rw [hc] at h
    exact Or.inr (va_Nw.use rfl (hnw _ (tn h rfl)))
theorem okI_get {i pc idx r1 r2 r3 w : Nat} {c : Int32} {cl : Int64} {ts : List (Int32 × Nat)} (h : okI i pc (.getfield idx) r1 r2 r3 w c cl ts = true) : FTok (mO i, idx, r1, r2, r3, w) ∧ ((r1 = 61 ∧ (r2 = 0 ∨ r2 = 1)) ∨ (r1 < 8 ∧ r2 < nf r1 ∧ ft r1 r2 = r3)) := by
  simp only [okI, Bool.and_eq_true, Bool.or_eq_true, List.contains_iff_mem] at h
  refine ⟨FT_ok _ h.1, ?_⟩
  rcases h.2 with h | h
  · exact Or.inl ⟨Nat.eq_of_beq_eq_true h.1, h.2.imp Nat.eq_of_beq_eq_true Nat.eq_of_beq_eq_true⟩
  · exact Or.inr ⟨Nat.lt_succ_of_le (Nat.le_of_ble_eq_true h.1.1), Nat.le_of_ble_eq_true h.1.2, Nat.eq_of_beq_eq_true h.2⟩
theorem okI_put {i pc idx r1 r2 r3 w : Nat} {c : Int32} {cl : Int64} {ts : List (Int32 × Nat)} (h : okI i pc (.putfield idx) r1 r2 r3 w c cl ts = true) : FTok (mO i, idx, r1, r2, r3, w) ∧ r1 < 8 ∧ r2 < nf r1 ∧ ft r1 r2 = r3 ∧ ((fT r1 r2).2.2.2 = false ∨ (isIn0 i = true ∧ r1 = mO i)) := by
  simp only [okI, Bool.and_eq_true, Bool.or_eq_true, List.contains_iff_mem, Bool.not_eq_true'] at h
  obtain ⟨⟨⟨⟨h1, h2⟩, h3⟩, h4⟩, h5⟩ := h
  exact ⟨FT_ok _ h1, Nat.lt_succ_of_le (Nat.le_of_ble_eq_true h2), Nat.le_of_ble_eq_true h3, Nat.eq_of_beq_eq_true h4, h5.imp id (fun z => ⟨z.1, Nat.eq_of_beq_eq_true z.2⟩)⟩
theorem tc_big : ∀ t, 60 ≤ t → tc t = 61 → t = 61 := by
  intro t h1 h2
  unfold tc at h2
  split at h2 <;> first | omega | rfl
theorem tc_big8 : ∀ t, 60 ≤ t → ¬ tc t < 8 := by
  intro t h1 h2
  unfold tc at h2
  split at h2 <;> omega
theorem isIn0_ok : ∀ i, i < 282 → isIn0 i = true → (mN i).name = "<init>" := by decide +kernel
theorem okR_61 {m : Mem} {n : Nat} (h : okR m (61, n)) : n < 16 := by
  have z := h.2 (show 60 ≤ 61 by decide)
  rcases z with ⟨a, -⟩ | ⟨-, b⟩ | ⟨a, -⟩ | ⟨a, -⟩ | ⟨a, -⟩ | ⟨a, -⟩ <;> first | exact b | exact absurd a (by simp)
theorem okR_62 {m : Mem} {n : Nat} (h : okR m (62, n)) : n < 16 := by
  have z := h.2 (show 60 ≤ 62 by decide)
  rcases z with ⟨a, -⟩ | ⟨a, -⟩ | ⟨-, b⟩ | ⟨a, -⟩ | ⟨a, -⟩ | ⟨a, -⟩ <;> first | exact b | exact absurd a (by simp)
theorem okR_60 {m : Mem} {n : Nat} (h : okR m (60, n)) : n < 11 := by
  have z := h.2 (show 60 ≤ 60 by decide)
  rcases z with ⟨-, b⟩ | ⟨a, -⟩ | ⟨a, -⟩ | ⟨a, -⟩ | ⟨a, -⟩ | ⟨a, -⟩ <;> first | exact b | exact absurd a (by simp)
theorem okR_63 {m : Mem} {n : Nat} (h : okR m (63, n)) : n = 0 := by
  have z := h.2 (show 60 ≤ 63 by decide)
  rcases z with ⟨a, -⟩ | ⟨a, -⟩ | ⟨a, -⟩ | ⟨-, b⟩ | ⟨a, -⟩ | ⟨a, -⟩ <;> first | exact b | exact absurd a (by simp)
theorem okR_64 {m : Mem} {n : Nat} (h : okR m (64, n)) : n < 2 := by
  have z := h.2 (show 60 ≤ 64 by decide)
  rcases z with ⟨a, -⟩ | ⟨a, -⟩ | ⟨a, -⟩ | ⟨a, -⟩ | ⟨-, b⟩ | ⟨a, -⟩ <;> first | exact b | exact absurd a (by simp)
theorem okR_mk60 {m : Mem} {n : Nat} (h : n < 11) : okR m (60, n) := ⟨fun q => absurd (show 60 < 60 from q) (by decide), fun _ => Or.inl ⟨rfl, h⟩⟩
theorem okR_mk61 {m : Mem} {n : Nat} (h : n < 16) : okR m (61, n) := ⟨fun q => absurd (show 61 < 60 from q) (by decide), fun _ => Or.inr (Or.inl ⟨rfl, h⟩)⟩
theorem okR_mk62 {m : Mem} {n : Nat} (h : n < 16) : okR m (62, n) := ⟨fun q => absurd (show 62 < 60 from q) (by decide), fun _ => Or.inr (Or.inr (Or.inl ⟨rfl, h⟩))⟩
theorem okR_mk64 {m : Mem} {n : Nat} (h : n < 2) : okR m (64, n) := ⟨fun q => absurd (show 64 < 60 from q) (by decide), fun _ => Or.inr (Or.inr (Or.inr (Or.inr (Or.inl ⟨rfl, h⟩))))⟩
theorem okR_mk65 {m : Mem} : okR m (65, 0) := ⟨fun q => absurd (show 65 < 60 from q) (by decide), fun _ => Or.inr (Or.inr (Or.inr (Or.inr (Or.inr ⟨rfl, rfl⟩))))⟩
theorem tc_not61 : ∀ t, t < 60 → tc t ≠ 61 := by decide +kernel
theorem lt_of_ble {t : Nat} (h : Nat.ble 60 t = false) : t < 60 := Nat.lt_of_not_le (fun z => by rw [Nat.ble_eq_true_of_le z] at h; cases h)
set_option maxRecDepth 20000 in
theorem FT_str : ∀ q ∈ FT, q.2.2.1 = 61 → ∃ w : Nat, tables_1[w]? = some (Cond.fieldLink (cN q.1) q.2.1 (fT 61 q.2.2.2.1).1 (fT 61 q.2.2.2.1).2.1 (fT 61 q.2.2.2.1).2.2.1) := by
  have h : ∀ q ∈ FT, q.2.2.1 = 61 → q = (11, 9, 61, 0, 3, 1845) ∨ q = (11, 15, 61, 1, 2, 1846) := by decide +kernel
  intro q hq h1
  rcases h q hq h1 with rfl | rfl
  · exact ⟨1845, rfl⟩
  · exact ⟨1846, rfl⟩
section MEM
variable {md : Bool} {i pc n r1 r2 r3 w : Nat} {c : Int32} {cl : Int64} {ts : List (Int32 × Nat)} {sl : List (Option SV)} {st : List SV} {m : Mem} {Q : Option SV → Mem → Prop} {K : Kt}
theorem E_getI {idx t cn : Nat} {s0 : List SV} (hcn : cN (mO i) = (mN i).cls) (hd : decode (mB i) pc = .ok (.getfield idx, 3)) (hft : FTok (mO i, idx, r1, r2, r3, w)) (htc : tc t = r1) (h60 : t < 60) (hr8 : r1 < 8) (hr2 : r2 < nf r1) (hty : ft r1 r2 ≠ 3) (hE : smE md i (pc + 3) sl (vI (gI m t cn r2) :: s0) m Q) : smE md i pc sl (vR (some (t, cn)) :: s0) m Q := by
  refine E_pure hE (fun a b => ⟨a, okS_cons.mpr ⟨trivial, (okS_cons.mp b).2⟩⟩) ?_
  intro l C p e R s mm args below meth cc H locs cells slots ls Qf aL aS aM aF hF hSt hH hS hL hrk hlq k
  obtain ⟨hx, hb, hml, hr, hlk, hnm, hown, hts⟩ := hF
  obtain ⟨he, hnx, hrg, h48⟩ := hH.at (okS_cons.mp aS).1 h60
  rw [ent_obj (tc_tk t h60 r1 hr8 htc), htc] at he
  have hv : ((List.range (nf r1)).map (fv C m t cn))[r2]? = some (.int (gI m t cn r2)) := by
    rw [List.getElem?_map, List.getElem?_range hr2]; simp only [Option.map_some, fv, htc, if_neg hty]
  simp only [List.map_cons, tv_ref h60]
  rcases flink hcn hts hSt.2.1 hft with hl | hl
  · exact va_get (D := cD C) (cl := vwCl) (tys := cT C) (ws := wsO C m) hx hb hts (lay_in hr8) hown hSt.1 hH.2.1 cn he (vw_at hr8) r2 hr2 hl (fun _ z => z) hv hd (k ls hL)
  · exact va_getN (D := cD C) (cl := vwCl) (tys := cT C) (ws := wsO C m) hx hb hts (lay_in hr8) hown hSt.1 hH.2.1 cn he (vw_at hr8) r2 hr2 hl (fun _ z => z) hv hd (k ls hL)
theorem E_getP {idx t cn : Nat} {s0 : List SV} (hcn : cN (mO i) = (mN i).cls) (hd : decode (mB i) pc = .ok (.getfield idx, 3)) (hft : FTok (mO i, idx, r1, r2, r3, w)) (htc : tc t = r1) (h60 : t < 60) (hr8 : r1 < 8) (hr2 : r2 < nf r1) (hty : ft r1 r2 = 3) (hE : smE md i (pc + 3) sl (vR (gP m t cn r2) :: s0) m Q) : smE md i pc sl (vR (some (t, cn)) :: s0) m Q := by
  intro b1 b2 b3 b4
  refine E_pure hE (fun a b => ⟨a, okS_cons.mpr ⟨?_, (okS_cons.mp b).2⟩⟩) ?_ b1 b2 b3 b4
  · cases hg : gP m t cn r2 with
    | none => trivial
    | some a => exact b3.1 t cn r2 a hg
  intro l C p e R s mm args below meth cc H locs cells slots ls Qf aL aS aM aF hF hSt hH hS hL hrk hlq k
  obtain ⟨hx, hb, hml, hr, hlk, hnm, hown, hts⟩ := hF
  obtain ⟨he, hnx, hrg, h48⟩ := hH.at (okS_cons.mp aS).1 h60
  rw [ent_obj (tc_tk t h60 r1 hr8 htc), htc] at he
  have hv : ((List.range (nf r1)).map (fv C m t cn))[r2]? = some (tv C (vR (gP m t cn r2))) := by
    rw [List.getElem?_map, List.getElem?_range hr2]; simp only [Option.map_some, fv, htc, if_pos hty]
  simp only [List.map_cons, tv_ref h60]
  rcases flink hcn hts hSt.2.1 hft with hl | hl
  · exact va_get (D := cD C) (cl := vwCl) (tys := cT C) (ws := wsO C m) hx hb hts (lay_in hr8) hown hSt.1 hH.2.1 cn he (vw_at hr8) r2 hr2 hl (fun _ z => z) hv hd (k ls hL)
  · exact va_getN (D := cD C) (cl := vwCl) (tys := cT C) (ws := wsO C m) hx hb hts (lay_in hr8) hown hSt.1 hH.2.1 cn he (vw_at hr8) r2 hr2 hl (fun _ z => z) hv hd (k ls hL)
theorem x_getfield {idx : Nat} (hcn : cN (mO i) = (mN i).cls) (hd : decode (mB i) pc = .ok (.getfield idx, n - pc)) (hn : okN pc (.getfield idx) n = true) (hi : okI i pc (.getfield idx) r1 r2 r3 w c cl ts = true) (hK : ∀ p l s m', K p l s m' → smE md i p l s m' Q) (h : st1 md i (pc, .getfield idx, n, r1, r2, r3, w, c, cl, ts) sl st m Q K) : smE md i pc sl st m Q := by
  obtain rfl : n = pc + 3 := Nat.eq_of_beq_eq_true hn
  rw [Nat.add_sub_cancel_left] at hd
  obtain ⟨hft, hi2⟩ := okI_get hi
  have hmem : (mO i, idx, r1, r2, r3, w) ∈ FT := by
    simp only [okI, Bool.and_eq_true, List.contains_iff_mem] at hi
    exact hi.1
  simp only [st1, sGet] at h
  split at h
  · rename_i t cn s0
    split at h
    · rename_i htc
      have htc : tc t = r1 := Nat.eq_of_beq_eq_true htc
      split at h
      · rename_i h60
        have h60 : 60 ≤ t := Nat.le_of_ble_eq_true h60
        obtain ⟨h61, hr2⟩ : r1 = 61 ∧ (r2 = 0 ∨ r2 = 1) := by
          rcases hi2 with z | z
          · exact z
          · exact absurd (htc ▸ z.1) (tc_big8 t h60)
        obtain rfl := tc_big t h60 (htc.trans h61)
        subst h61
        split at h
        · refine E_pure (hK _ _ _ _ h) (fun a b => ⟨a, okS_cons.mpr ⟨okR_mk62 (okR_61 (okS_cons.mp b).1), (okS_cons.mp b).2⟩⟩) ?_
          intro l C p e R s mm args below meth cc H locs cells slots ls Qf aL aS aM aF hF hSt hH hS hL hrk hlq k
          obtain ⟨hx, hb, hml, hr, hlk, hnm, hown, hts⟩ := hF
          have z := okR_61 (okS_cons.mp aS).1
          have k := k ls hL
          simp only [List.map_cons, tv_st (show 60 ≤ 61 by decide) (show 61 ≠ 65 by decide), tv_st (show 60 ≤ 62 by decide) (show 62 ≠ 65 by decide)] at k ⊢
          obtain ⟨w', hw'⟩ := FT_str _ hmem rfl
          have hl := hts _ (tw hw' rfl)
          simp only [hcn] at hl
          exact vk_getf hx hb (hSt.2.2.2.2.2.2.2.1 cn z).2.2.1 hS hown hl (fun _ z => z) hd k
        · rename_i hne
          obtain rfl : r2 = 1 := hr2.resolve_left (fun z => hne z)
          refine E_pure (hK _ _ _ _ h) (fun a b => ⟨a, okS_cons.mpr ⟨trivial, (okS_cons.mp b).2⟩⟩) ?_
          intro l C p e R s mm args below meth cc H locs cells slots ls Qf aL aS aM aF hF hSt hH hS hL hrk hlq k
          obtain ⟨hx, hb, hml, hr, hlk, hnm, hown, hts⟩ := hF
          have z := okR_61 (okS_cons.mp aS).1
          have k := k ls hL
          simp only [List.map_cons, tv_st (show 60 ≤ 61 by decide) (show 61 ≠ 65 by decide)] at k ⊢
          obtain ⟨w', hw'⟩ := FT_str _ hmem rfl
          have hl := hts _ (tw hw' rfl)
          simp only [hcn] at hl
          exact vk_getf hx hb (hSt.2.2.2.2.2.2.2.1 cn z).2.1 hS hown hl (fun _ z => z) hd k
      · rename_i h60
        have h60 := lt_of_ble h60
        obtain ⟨hr8, hr2, hty⟩ : r1 < 8 ∧ r2 < nf r1 ∧ ft r1 r2 = r3 := by
          rcases hi2 with z | z
          · exact absurd (htc.trans z.1) (tc_not61 t h60)
          · exact z
        split at h
        · split at h
          · split at h
            · rename_i a hfr
              intro b1 b2 b3 b4
              have hr := (okS_cons.mp b2).1
              have z := b4 rfl cn r2 a (hr.1 h60).1 (by rw [(hr.1 h60).2]; exact hfr) (fun q => by rw [(hr.1 h60).2] at q; subst q; exact absurd hr8 (by rw [← htc]; decide))
              rw [(hr.1 h60).2] at z
              refine E_getP hcn hd hft htc h60 hr8 hr2 hty ?_ b1 b2 b3 b4
              rw [z]
              exact hK _ _ _ _ h
            · obtain ⟨r, rfl, h⟩ := h
              exact E_getP hcn hd hft htc h60 hr8 hr2 hty (hK _ _ _ _ h)
          · obtain ⟨r, rfl, h⟩ := h
            exact E_getP hcn hd hft htc h60 hr8 hr2 hty (hK _ _ _ _ h)
        · rename_i hne
          exact E_getI hcn hd hft htc h60 hr8 hr2 (fun z => hne (hty.symm.trans z)) (hK _ _ _ _ h)
    · exact h.elim
  · exact h.elim
end MEM
