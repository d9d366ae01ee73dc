/-! CALLS UP: StringBuilder over AbstractStringBuilder; the places of such calls are stops -/
def okM2 (i : Nat) (bad : List Nat) : Bool := Nat.ble 1 (rk i) && Nat.ble 40 (lq i) && (cd i).all (fun ch => ch.2.all (fun e => bad.elem e.1 || okE i e))
def OKb (i : Nat) (bad : List Nat) : Prop := 1 ≤ rk i ∧ 40 ≤ lq i ∧ ∀ ch ∈ cd i, ∀ e ∈ ch.2, bad.elem e.1 = true ∨ okE i e = true
theorem OKb_of {i : Nat} {bad : List Nat} (h : okM2 i bad = true) : OKb i bad := by
  simp only [okM2, Bool.and_eq_true, List.all_eq_true, Bool.or_eq_true] at h
  exact ⟨Nat.le_of_ble_eq_true h.1.1, Nat.le_of_ble_eq_true h.1.2, fun ch hc e he => h.2 ch hc e he⟩
theorem wpB_ok {md : Bool} {i : Nat} {cc : List (Nat × List Ent)} {stops : List Nat} {Q : Option SV → Mem → Prop} (h282 : i < 282) (hOK : OKb i stops) (hcc : cd i = cc) : ∀ (f pc : Nat) (sl : List (Option SV)) (st : List SV) (m : Mem), wp md i cc stops Q f pc sl st m → smE md i pc sl st m Q
  | 0, _, _, _, _, h => h.elim
  | f + 1, pc, sl, st, m, h => by
    unfold wp at h
    split at h
    · exact h.2
    · rename_i hs
      split at h
      · rename_i e he
        subst hcc
        obtain ⟨ch, h1, h2, rfl⟩ := fnd2_mem he
        have hk : okE i e = true := by
          rcases hOK.2.2 ch h1 e h2 with z | z
          · rw [z] at hs; cases hs
          · exact z
        exact st1_ok h282 hOK.1 hOK.2.1 hk (fun p l s m' hk => wpB_ok h282 hOK rfl f p l s m' hk) h
      · exact h.elim
theorem smC_wpB {md : Bool} {y : Nat} {as : List SV} {m : Mem} {K : Option SV → Mem → Prop} (sl : List (Option SV)) (cc : List (Nat × List Ent)) (stops : List Nat) (f : Nat) (hOK : OKb y stops) (h282 : y < 282) (hcc : cd y = cc) (hsl : entL (mL y) as = sl) (hlen : (enL as).length ≤ mL y) (h : wp md y cc stops K f 0 sl [] m) : smC md y as m K :=
  smC_of h282 hsl hlen (wpB_ok h282 hOK hcc f 0 sl [] m h)
abbrev ASBn : String := "java/lang/AbstractStringBuilder"
abbrev SBn : String := "java/lang/StringBuilder"
theorem same_own {y : MethodName} {n0 d0 : String} {args : Array Value} {s : State} (hs : (Cond.sameMethod y.cls y.cls n0 d0).before args s = true) (hi : (Cond.instanceMethod y).before args s = true) (hy : y.cls ≠ "java/lang/invoke/MethodHandle" ∧ y.cls ≠ "java/lang/invoke/VarHandle") : (Cond.sameMethod y.cls y.cls y.name y.desc).before args s = true := by
  obtain ⟨c, ck, r, hc, hck, hni, -, -⟩ := Cond.sameMethod_found hs
  obtain ⟨mk, methM, hnamed, hmethM, -, -⟩ := Cond.instanceMethod_spec hi
  have hfound : s.methodFound? y.cls y.name y.desc = some mk := State.methodFound?_of_named hnamed hy
  have hn : s.methodNamed? ⟨y.cls, y.name, y.desc⟩ = some mk := hnamed
  simp only [Cond.before, Cond.holds, Cond.value, hc, hfound, hn, hck]
  simp; exact hni
theorem sel_priv {y : MethodName} {C n0 d0 : String} {n : Nat} {args : Array Value} {s : State} (hins : (Cond.instantiable C n).before args s = true) (hs : (Cond.sameMethod y.cls y.cls n0 d0).before args s = true) (hpriv : (Cond.privateMethod y).before args s = true) (hi : (Cond.instanceMethod y).before args s = true) (hy : y.cls ≠ "java/lang/invoke/MethodHandle" ∧ y.cls ≠ "java/lang/invoke/VarHandle") : (Cond.selects C y y).before args s = true := by
  obtain ⟨c, k, hc, hk, -⟩ := Cond.instantiable_spec hins
  obtain ⟨c2, ck, r, hc2, hck, hni, -, -⟩ := Cond.sameMethod_found hs
  obtain ⟨mk, methM, hnamed, hmethM, -, -⟩ := Cond.instanceMethod_spec hi
  have hfound : s.methodFound? y.cls y.name y.desc = some mk := State.methodFound?_of_named hnamed hy
  have hcls : mk.cls = c2 := Option.some.inj ((findClass_of_methodNamed hnamed).symm.trans hc2)
  have hsel : selectMethod {} s.vm c mk = .method mk := selectMethod_private hmethM (Cond.privateMethod_at hpriv mk methM hnamed hmethM)
  simp only [Cond.before, Cond.holds, Cond.value, hc, hfound, hnamed, hsel, hcls, hck]
  simp; exact hni
set_option maxRecDepth 20000 in
theorem w_same : tables_1[1043]? = some (.sameMethod ASBn ASBn "isLatin1" "()Z") := rfl
set_option maxRecDepth 20000 in
theorem w_sup : tables_1[1006]? = some (.superclass SBn ASBn) := rfl
set_option maxRecDepth 20000 in
theorem w_inst : tables_1[979]? = some (.instantiable SBn 4) := rfl
set_option maxRecDepth 20000 in
theorem w_sel275 : tables_1[1044]? = some (.selects SBn (mN 275) (mN 275)) := rfl
set_option maxRecDepth 20000 in
theorem w_pr273 : tables_1[1017]? = some (.privateMethod (mN 273)) := rfl
set_option maxRecDepth 20000 in
theorem w_pr274 : tables_1[1021]? = some (.privateMethod (mN 274)) := rfl
section UP
variable {md : Bool} {i pc : Nat} {sl : List (Option SV)} {st : List SV} {m : Mem} {Q : Option SV → Mem → Prop}
abbrev KAft (md : Bool) (i pc : Nat) (sl : List (Option SV)) (s0 : List SV) (Q : Option SV → Mem → Prop) : Option SV → Mem → Prop := fun v m' => match v with
  | some w => smE md i (pc + 3) sl (w :: s0) m' Q
  | none => smE md i (pc + 3) sl s0 m' Q
theorem recv22 {C : Ctx} {t cn : Nat} {s : State} {H : Heap} (htc : tc t = 0) (hok : okR m (t, cn)) (hSt : Sta C (gL m 63 0) (gI m 63 0) s) (hH : HR C m H) : ∃ b, tv C (vR (some (t, cn))) = .ref b ∧ ∃ cellB : Cell, H[b]? = some cellB ∧ cellB.vm.isStatics = false ∧ s.vm.findClass SBn = some cellB.cls := by
  have h60 : t < 60 := Nat.lt_of_not_le (fun z => tc_big8 t z (by rw [htc]; decide))
  refine ⟨_, tv_ref h60, ?_⟩
  obtain ⟨he, -⟩ := hH.at hok h60
  rw [ent_obj (tc_tk t h60 0 (by decide) htc), htc] at he
  exact va_recv hSt.1 hH.2.1 (vw_at (c := 0) (by decide)) he
theorem E_vup {idx y w c ii k sx : Nat} {as0 s0 : List SV} {cn : Nat} (h282 : i < 282) (hC : smC md y (vR (some (22, cn)) :: as0) m (KAft md i pc sl s0 Q)) (hst : st = (vR (some (22, cn)) :: as0).reverse ++ s0) (hcs : catS s0 ≤ 8) (hlen : as0.length = nAr y) (hd : decode (mB i) pc = .ok (.invokevirtual idx, 3)) (hl : tables_1[w]? = some (.methodLink (mN i).cls idx (mN y))) (hyt : YTok (y, c, ii, 3, k, sx)) (hy : y < 282) (h1 : rk y + 1 ≤ rk i) (h2 : 19 + mL y + lq y ≤ lq i)
    (hse : ∀ (args : Array Value) (s : State), (∀ w ∈ GW, w.before args s = true) → (Cond.selects SBn (mN y) (mN y)).before args s = true) : smE md i pc sl st m Q := by
  refine E_call (K := fun p l s m' => smE md i p l s m' Q) hC (fun _ _ _ _ h => h) hst ?_
  intro v M' hT l C p e R s mm args below meth cc H locs cells slots ls hsa hF hSt hH hS hL hrk hlq hc1 hc2
  obtain ⟨hx, hb, hml, hr, hlk, hnm, hown, hts⟩ := hF
  obtain ⟨hq1, hq2, hq3, hq4, hq5⟩ := cwords (M := m) (M' := M') hyt hy h1 h2 hrk hlq hts
  have hstk : st.map (tv C) = ((vR (some (22, cn)) :: as0).map (tv C)).reverse ++ s0.map (tv C) := by rw [hst]; simp
  have hcat : 2 * (F0 mm pc ls (st.map (tv C))).monitorRoom + ((s0.map (tv C)).map fun v => v.category).sum ≤ 8 := by
    rw [catS_ok hSt.sq]; show 2 * 0 + _ ≤ 8; omega
  have hn : (as0.map (tv C)).length = nAr y := by rw [List.length_map]; exact hlen
  have hin : (Cond.instanceMethod (mN y)).before args s = true := hts _ (tw hyt.2.2 rfl)
  simp only [List.map_cons, List.reverse_cons, List.append_assoc, List.singleton_append] at hstk
  have hpre := pre_ok (as := vR (some (22, cn)) :: as0) hSt hH hS
  simp only [List.map_cons] at hpre ⊢
  obtain ⟨b, hbv, cellB, hcell⟩ := recv22 (t := 22) rfl (okS_cons.mp hsa).1 hSt hH
  rw [hbv] at hstk hpre ⊢
  exact va_runV (Ts := GW) (C := SBn) ⟨hx, hb, hml, hown, hts⟩ (hT l C) ⟨⟨hq1.1, hq1.2.1, hq1.2.2.1, hq1.2.2.2.1, hq1.2.2.2.2.1, hq1.2.2.2.2.2, hq2, hq3, hq4, hq5, hts _ (tw hl rfl)⟩, hin, hse args s hts⟩ ⟨blind, ⟨cellB, hcell⟩, hpre⟩ rfl hn hL.1 hstk hcat hd ⟨hc1, hc2⟩
theorem E_sup {idx y w c ii k sx : Nat} {as0 s0 : List SV} {cn : Nat} (hci : (mN i).cls = SBn) (hcy : (mN y).cls = ASBn) (hny : (mN y).name ≠ "<init>") (hC : smC md y (vR (some (22, cn)) :: as0) m (KAft md i pc sl s0 Q)) (hst : st = (vR (some (22, cn)) :: as0).reverse ++ s0) (hcs : catS s0 ≤ 8) (hlen : as0.length = nAr y) (hd : decode (mB i) pc = .ok (.invokespecial idx, 3)) (hl : tables_1[w]? = some (.methodLink (mN i).cls idx (mN y))) (hyt : YTok (y, c, ii, 3, k, sx)) (hy : y < 282) (h1 : rk y + 1 ≤ rk i) (h2 : 19 + mL y + lq y ≤ lq i) : smE md i pc sl st m Q := by
  refine E_call (K := fun p l s m' => smE md i p l s m' Q) hC (fun _ _ _ _ h => h) hst ?_
  intro v M' hT l C p e R s mm args below meth cc H locs cells slots ls hsa hF hSt hH hS hL hrk hlq hc1 hc2
  obtain ⟨hx, hb, hml, hr, hlk, hnm, hown, hts⟩ := hF
  obtain ⟨hq1, hq2, hq3, hq4, hq5⟩ := cwords (M := m) (M' := M') hyt hy h1 h2 hrk hlq hts
  have hstk : st.map (tv C) = ((vR (some (22, cn)) :: as0).map (tv C)).reverse ++ s0.map (tv C) := by rw [hst]; simp
  have hcat : 2 * (F0 mm pc ls (st.map (tv C))).monitorRoom + ((s0.map (tv C)).map fun v => v.category).sum ≤ 8 := by
    rw [catS_ok hSt.sq]; show 2 * 0 + _ ≤ 8; omega
  have hn : (as0.map (tv C)).length = nAr y := by rw [List.length_map]; exact hlen
  have hin : (Cond.instanceMethod (mN y)).before args s = true := hts _ (tw hyt.2.2 rfl)
  simp only [List.map_cons, List.reverse_cons, List.append_assoc, List.singleton_append] at hstk
  have hpre := pre_ok (as := vR (some (22, cn)) :: as0) hSt hH hS
  simp only [List.map_cons] at hpre ⊢
  obtain ⟨b, hbv, cellB, hcell⟩ := recv22 (t := 22) rfl (okS_cons.mp hsa).1 hSt hH
  rw [hbv] at hstk hpre ⊢
  have hsame : (Cond.sameMethod (mN y).cls (mN y).cls (mN y).name (mN y).desc).before args s = true := same_own (n0 := "isLatin1") (d0 := "()Z") (by rw [hcy]; exact hts _ (tw w_same rfl)) hin hq4
  have hsup : (Cond.superclass (mN i).cls (mN y).cls).before args s = true := by rw [hci, hcy]; exact hts _ (tw w_sup rfl)
  obtain ⟨c0, k0, hc0, hk0, hord, -⟩ := Cond.instantiable_spec (hts _ (tw w_inst rfl))
  exact va_runSU (Ts := GW) (C := SBn) (cC := c0) ⟨hc0, k0, hk0, hord⟩ ⟨hx, hb, hml, hown, hts⟩ (hT l C) ⟨hq1, hts _ (tw hl rfl), hsame, hsup, hin, hq3, hq2, hny, hq5⟩ ⟨blind, ⟨cellB, hcell⟩, hpre⟩ rfl hn hL.1 hstk hcat hd ⟨hc1, hc2⟩
end UP
theorem se275 : ∀ (args : Array Value) (s : State), (∀ w ∈ GW, w.before args s = true) → (Cond.selects SBn (mN 275) (mN 275)).before args s = true := fun args s hts => hts _ (tw w_sel275 rfl)
theorem se273 : ∀ (args : Array Value) (s : State), (∀ w ∈ GW, w.before args s = true) → (Cond.selects SBn (mN 273) (mN 273)).before args s = true := fun args s hts => hts _ (List.mem_filter.mpr ⟨List.mem_cons_self, rfl⟩)
theorem se274 : ∀ (args : Array Value) (s : State), (∀ w ∈ GW, w.before args s = true) → (Cond.selects SBn (mN 274) (mN 274)).before args s = true := fun args s hts => hts _ (List.mem_filter.mpr ⟨List.mem_cons_of_mem _ List.mem_cons_self, rfl⟩)
