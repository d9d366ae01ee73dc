theorem popK_spec : ∀ (na : Nat) (st acc : List SV) (k : List SV → List SV → Prop), popK na st acc k → ∃ l s, st = l ++ s ∧ l.length = na ∧ k (l.reverse ++ acc) s
  | 0, st, acc, k, h => ⟨[], st, rfl, rfl, h⟩
  | na + 1, [], acc, k, h => h.elim
  | na + 1, v :: st, acc, k, h => by
    obtain ⟨l, s, h1, h2, h3⟩ := popK_spec na st (v :: acc) k h
    exact ⟨v :: l, s, by rw [h1]; rfl, by simp [h2], by simpa using h3⟩
theorem catS_ok {C : Ctx} (hq : SQ C) : ∀ (s : List SV), ((s.map (tv C)).map fun v => v.category).sum = catS s
  | [] => rfl
  | .inl x :: s => by simp only [List.map_cons, List.sum_cons, catS, catS_ok hq s, tv_cat hq, isLg]; simp; omega
  | .inr (.inl x) :: s => by simp only [List.map_cons, List.sum_cons, catS, catS_ok hq s, tv_cat hq, isLg]; simp; omega
  | .inr (.inr x) :: s => by simp only [List.map_cons, List.sum_cons, catS, catS_ok hq s, tv_cat hq, isLg]; simp; omega
theorem YT_lt : ∀ q ∈ YT, q.1 < 282 := by decide +kernel
theorem nAr_ok : ∀ y, y < 282 → (parseMethodDescriptor (mN y).desc).map (fun d => d.parameters.length) = some (nAr y) := by decide +kernel
theorem noMH : ∀ y, y < 282 → (mN y).cls ≠ "java/lang/invoke/MethodHandle" ∧ (mN y).cls ≠ "java/lang/invoke/VarHandle" := by decide +kernel
theorem plain_ok : ∀ y, y < 282 → plainFor (mN y) = true := by decide +kernel
theorem okY_get {y kd r2 : Nat} (h : okY y kd r2 = true) : ∃ c i k s, YTok (y, c, i, kd, k, s) ∧ y < 282 ∧ ((kd = 0 ∧ r2 = nAr y) ∨ (kd = 1 ∧ r2 = nAr y + 1 ∧ isIn0 y = true) ∨ (kd = 2 ∧ r2 = nAr y + 1)) := by
  obtain ⟨⟨y', c, i, kd', k, s⟩, hq, h2⟩ := List.any_eq_true.mp h
  have hlt := YT_lt _ hq
  have hok := YT_ok _ hq
  simp only [Bool.and_eq_true] at h2
  obtain ⟨h3, h4⟩ := h2
  have h3 : y' = y := Nat.eq_of_beq_eq_true h3
  subst h3
  refine ⟨c, i, k, s, ?_⟩
  split at h4
  · exact ⟨hok, hlt, Or.inl ⟨rfl, Nat.eq_of_beq_eq_true h4⟩⟩
  · simp only [Bool.and_eq_true] at h4
    exact ⟨hok, hlt, Or.inr (Or.inl ⟨rfl, Nat.eq_of_beq_eq_true h4.1, h4.2⟩)⟩
  · exact ⟨hok, hlt, Or.inr (Or.inr ⟨rfl, Nat.eq_of_beq_eq_true h4⟩)⟩
  · cases h4
theorem mW_ok {y c ii kd k sx : Nat} {args : Array Value} {s : State} (hy : YTok (y, c, ii, kd, k, sx)) (hts : ∀ w ∈ GW, w.before args s = true) : ∀ w ∈ mW y, ∀ (a' : Array Value) (U : State), s.WarmedH U.vm → w.before a' U = true := by
  have hc : Cond.code (mN y) (mB y) (mL y) (mR y) ∈ GW := tw hy.1 rfl
  have hG : ∀ w ∈ GW, ∀ (a' : Array Value) (U : State), s.WarmedH U.vm → w.before a' U = true := fun w hw a' U hW => word_at hW (good_of_word (List.mem_filter.mp hw).2) (hts w hw)
  intro w hw
  rcases List.mem_cons.mp hw with rfl | hw
  · exact hG _ hc
  · exact hG _ hw
theorem blind {C : Ctx} {as : List SV} {m : Mem} : FrameBlind (PcC C as m) := by
  intro a U g mk h
  obtain ⟨h1, h2, h3⟩ := h
  exact ⟨h1, h2.move (fun q _ _ => rfl) (State.WarmedH.refl U), h3⟩
theorem pre_ok {C : Ctx} {as : List SV} {m : Mem} {s : State} {H : Heap} {locs : List Loc} (hSt : Sta C (gL m 63 0) (gI m 63 0) s) (hH : HR C m H) (hS : va_S (cA C) s.heap H locs) : ∀ U : State, U.heap = H → s.WarmedH U.vm → PcC C as m (as.map (tv C)).toArray U := by
  intro U hU hW
  exact ⟨rfl, hSt.move (fun q h1 h2 => by rw [hU]; exact hS.2.1 q h1 h2) hW, by rw [hU]; exact hH⟩
theorem Ext.trans {a b c : Mem} (h : Ext a b) (h2 : Ext b c) : Ext a c := ⟨Nat.le_trans h.1 h2.1, Nat.le_trans h.2.1 h2.2.1, fun q z => h2.2.2.1 q (h.2.2.1 q z), h2.2.2.2.1.trans h.2.2.2.1, h2.2.2.2.2.trans h.2.2.2.2⟩
theorem okV_ext {m m' : Mem} (h : Ext m m') {v : SV} (hv : okV m v) : okV m' v := by
  match v, hv with
  | .inl _, _ => trivial
  | .inr (.inl _), _ => trivial
  | .inr (.inr none), _ => trivial
  | .inr (.inr (some a)), q => exact h.2.2.1 a q
/-- behind a call -/
theorem run_go {C : Ctx} {p : Program} {l : Launch} {e : Env} {R : Room} {s : State} {mm : MethodId} {args a : Array Value} {below : List Frame} {meth : Method} {c : Code} {H : Heap} {locs : List Loc} {cells slots mc ms pc : Nat} {ls : Array Slot} {st0 rest : List Value} {v : Option SV} {M' : Mem} {Qf : State → Prop}
    (hr : va_Run p l e R s mm args below meth c H locs cells slots mc ms (F0 mm pc ls st0) rest (QcC C v M' a) (cA C)) (hS : va_S (cA C) s.heap H locs)
    (kk : ∀ (H1 : Heap) (locs1 : List Loc), HR C M' H1 → va_S (cA C) s.heap H1 locs1 → W p l e R s mm args below meth c H1 locs1 (cells + mc) (slots + ms) Qf (F0 mm (pc + 3) ls ((v.map (tv C)).toList ++ rest))) : W p l e R s mm args below meth c H locs cells slots Qf (F0 mm pc ls st0) := by
  intro T hT X
  obtain ⟨v0, st₀, t, T', L, h0, X', hL, e1, e2, ⟨hv, hHR, hz, hk⟩, st⟩ := hr T hT X
  have hv : v0 = v.map (tv C) := by injection hv
  subst hv
  rw [h0] at hz hk
  obtain ⟨t2, a1, b1⟩ := kk T'.heap (locs ++ L) (by rw [e1]; exact hHR)
    ⟨Nat.le_trans hS.1 (by rw [e1]; exact hz), fun q h1 h2 => by rw [e1, hk q (Nat.lt_of_lt_of_le h1 hS.1) h2]; exact hS.2.1 q h1 h2, fun q hq => by
      rcases List.mem_append.mp hq with h | h
      · exact hS.2.2 q h
      · exact hL q h⟩ T' rfl X'
  exact ⟨t2, st t2 a1, b1⟩
section CALL
variable {md : Bool} {i pc n r1 r2 r3 w : Nat} {c : Int32} {cl : Int64} {ts : List (Int32 × Nat)} {sl : List (Option SV)} {st : List SV} {m : Mem} {Q : Option SV → Mem → Prop} {K : Kt}
theorem E_call {y : Nat} {as s0 : List SV} (hC : smC md y as m (fun v m' => match v with
        | some w => K (pc + 3) sl (w :: s0) m'
        | none => K (pc + 3) sl s0 m')) (hK : ∀ p l s m', K p l s m' → smE md i p l s m' Q) (hst : st = as.reverse ++ s0)
    (hrun : ∀ (v : Option SV) (M' : Mem), Tr y as m v M' → ∀ (l : Launch) (C : Ctx) (p : Program) (e : Env) (R : Room) (s : State) (mm : MethodId) (args : Array Value) (below : List Frame) (meth : Method) (cc : Code) (H : Heap) (locs : List Loc) (cells slots : Nat) (ls : Array Slot),
      okS m as → Fix i p s mm args meth cc → Sta C (gL m 63 0) (gI m 63 0) s → HR C m H → va_S (cA C) s.heap H locs → LR C (mL i) ls sl → rk i ≤ R.frames → lq i ≤ R.locals → cells + (nX M' - nX m) ≤ R.cells → slots + (nS M' - nS m) ≤ R.slots →
      va_Run p l e R s mm args below meth cc H locs cells slots (nX M' - nX m) (nS M' - nS m) (F0 mm pc ls (st.map (tv C))) (s0.map (tv C)) (QcC C v M' (as.map (tv C)).toArray) (cA C)) : smE md i pc sl st m Q := by
  intro b1 b2 b3 b4
  have hsa : okS m as := fun v hv => b2 v (by rw [hst]; exact List.mem_append_left _ (List.mem_reverse.mpr hv))
  have hs0 : okS m s0 := fun v hv => b2 v (by rw [hst]; exact List.mem_append_right _ hv)
  obtain ⟨v, M1, hKv, hx1, hv1, hM1, hF1, hT⟩ := hC hsa b3 b4
  have hE : smE md i (pc + 3) sl (v.toList ++ s0) M1 Q := by
    cases v with
    | none => exact hK _ _ _ _ hKv
    | some w => exact hK _ _ _ _ hKv
  obtain ⟨v2, M2, hQ, hx2, hv2, hM2, hF2, hG⟩ := hE (fun v hv => okV_ext hx1 (b1 v hv)) (fun w hw => by
    rcases List.mem_append.mp hw with h | h
    · exact hv1 w (by cases v with
        | none => simp at h
        | some x => simp at h; rw [h])
    · exact okV_ext hx1 (hs0 w h)) hM1 hF1
  refine ⟨v2, M2, hQ, hx1.trans hx2, hv2, hM2, hF2, ?_⟩
  intro l C p e R s mm args below meth cc H locs cells slots ls hF hSt hH hS hL hce hsl hrk hlq
  have g1 := hx1.1
  have g2 := hx1.2.1
  have g3 := hx2.1
  have g4 := hx2.2.1
  refine run_go (hrun v M1 hT l C p e R s mm args below meth cc H locs cells slots ls hsa hF hSt hH hS hL hrk hlq (by omega) (by omega)) hS (fun H1 locs1 hH1 hS1 => ?_)
  have e1 : cells + (nX M2 - nX m) = cells + (nX M1 - nX m) + (nX M2 - nX M1) := by omega
  have e2 : slots + (nS M2 - nS m) = slots + (nS M1 - nS m) + (nS M2 - nS M1) := by omega
  rw [e1, e2]
  have hst2 : (v.map (tv C)).toList ++ s0.map (tv C) = (v.toList ++ s0).map (tv C) := by
    cases v <;> simp
  rw [hst2]
  exact hG l C p e R s mm args below meth cc H1 locs1 _ _ ls hF (by rw [hx1.2.2.2.1, hx1.2.2.2.2]; exact hSt) hH1 hS1 hL (by omega) (by omega) hrk hlq
end CALL
