/-! THE ENTRY: all that stood there before -/
section ENTRY
variable {args : Array Value} {s : State} {A : Nat → Prop}
theorem of_wTa {tm : Term} {ty : FieldType} {xs : List Int32} (hw : ∀ c ∈ wTa tm ty xs, c.before args s = true) (hN : xs.length < 2 ^ 31) (hA : ∀ a : Nat, a < s.heap.size → ¬ A a) : ∃ t : Nat, tm.eval args s none [] s = some (.ref t) ∧ va_T ty t xs.length (fun j => .int (xs.getD j 0)) A s s.heap :=
  va_Tof hN (hw _ List.mem_cons_self) (va_eqt (hw _ (List.mem_cons_of_mem _ List.mem_cons_self))) (fun j hj => va_eqt (hw _ (List.mem_cons_of_mem _ (List.mem_cons_of_mem _ (List.mem_map.mpr ⟨j, List.mem_range.mpr hj, rfl⟩))))) hA
theorem fl_blk {ws : List Cond} {i n : Nat} (hg : ∀ c ∈ flW, c.before args s = true) (h : (flW.drop i).take n = ws) : ∀ c ∈ ws, c.before args s = true := by
  subst h
  exact fun c hc => hg c (List.mem_of_mem_drop (List.mem_of_mem_take hc))
theorem e60 (hg : ∀ c ∈ flW, c.before args s = true) (ht : ∀ c ∈ tables_1, c.before args s = true) (hA : ∀ a : Nat, a < s.heap.size → ¬ A a) (k : Nat) (hk : k < 11) : ∃ t : Nat, va_Z RX5 (stN k) "[I" (.ref t) A s s.heap ∧ va_T .int t (stI k).length (fun j => .int ((stI k).getD j 0)) A s s.heap := by
  have go : ∀ {k i l n : Nat}, (flW.drop i).take n = wTa (.static RX5 (stN k) "[I") .int (stI k) → tables_1[l]? = some (.laysStatic RX5 (stN k) "[I") → (stI k).length < 2 ^ 31 → ∃ t : Nat, va_Z RX5 (stN k) "[I" (.ref t) A s s.heap ∧ va_T .int t (stI k).length (fun j => .int ((stI k).getD j 0)) A s s.heap := by
    intro k i l n h1 h2 h3
    obtain ⟨t, e, hT⟩ := of_wTa (fl_blk hg h1) h3 hA
    exact ⟨t, va_Zof (ht _ (List.mem_of_getElem? h2)) (ht _ (List.mem_of_getElem? l_i5)) e hA, hT⟩
  rcases (show k = 0 ∨ k = 1 ∨ k = 2 ∨ k = 3 ∨ k = 4 ∨ k = 5 ∨ k = 6 ∨ k = 7 ∨ k = 8 ∨ k = 9 ∨ k = 10 by omega) with rfl | rfl | rfl | rfl | rfl | rfl | rfl | rfl | rfl | rfl | rfl
  · exact go f60_0 l60_0 (by decide)
  · exact go f60_1 l60_1 (by decide)
  · exact go f60_2 l60_2 (by decide)
  · exact go f60_3 l60_3 (by decide)
  · exact go f60_4 l60_4 (by decide)
  · exact go f60_5 l60_5 (by decide)
  · exact go f60_6 l60_6 (by decide)
  · exact go f60_7 l60_7 (by decide)
  · exact go f60_8 l60_8 (by decide)
  · exact go f60_9 l60_9 (by decide)
  · exact go f60_10 l60_10 (by decide)
theorem e64 (hg : ∀ c ∈ flW, c.before args s = true) (ht : ∀ c ∈ tables_1, c.before args s = true) (hA : ∀ a : Nat, a < s.heap.size → ¬ A a) (k : Nat) (hk : k < 2) : ∃ t : Nat, va_Z "java/lang/Integer" (stDN k) "[B" (.ref t) A s s.heap ∧ va_T .byte t 100 (fun j => .int ((stD k).getD j 0)) A s s.heap := by
  have go : ∀ {k i l n : Nat}, (flW.drop i).take n = wTa (.static "java/lang/Integer" (stDN k) "[B") .byte (stD k) → tables_1[l]? = some (.laysStatic "java/lang/Integer" (stDN k) "[B") → (stD k).length = 100 → ∃ t : Nat, va_Z "java/lang/Integer" (stDN k) "[B" (.ref t) A s s.heap ∧ va_T .byte t 100 (fun j => .int ((stD k).getD j 0)) A s s.heap := by
    intro k i l n h1 h2 h3
    obtain ⟨t, e, hT⟩ := of_wTa (fl_blk hg h1) (by rw [h3]; decide) hA
    rw [h3] at hT
    exact ⟨t, va_Zof (ht _ (List.mem_of_getElem? h2)) (ht _ (List.mem_of_getElem? l_iI)) e hA, hT⟩
  rcases (show k = 0 ∨ k = 1 by omega) with rfl | rfl
  · exact go f64_0 l64_0 (by simp [stD])
  · exact go f64_1 l64_1 (by simp [stD])
theorem e61 (hg : ∀ c ∈ flW, c.before args s = true) (ht : ∀ c ∈ tables_1, c.before args s = true) (hA : ∀ a : Nat, a < s.heap.size → ¬ A a) (k : Nat) (hk : k < 16) : ∃ q : Nat × Nat, va_O "java/lang/String" q.1 A s s.heap ∧ va_OF "java/lang/String" "coder" "B" (.int 0) q.1 A s s.heap ∧ va_OF "java/lang/String" "value" "[B" (.ref q.2) q.1 A s s.heap ∧ va_T .byte q.2 (stS k).length (fun j => .int ((stS k).getD j 0)) A s s.heap ∧ vk_R (stQ k).1 (stQ k).2.1 (stQ k).2.2 q.1 s := by
  have go : ∀ {k i l n : Nat}, (flW.drop i).take n = wTs k → tables_1[l]? = some (.stringRef (stQ k).1 (stQ k).2.1 (stQ k).2.2) → (stS k).length < 2 ^ 31 → ∃ q : Nat × Nat, va_O "java/lang/String" q.1 A s s.heap ∧ va_OF "java/lang/String" "coder" "B" (.int 0) q.1 A s s.heap ∧ va_OF "java/lang/String" "value" "[B" (.ref q.2) q.1 A s s.heap ∧ va_T .byte q.2 (stS k).length (fun j => .int ((stS k).getD j 0)) A s s.heap ∧ vk_R (stQ k).1 (stQ k).2.1 (stQ k).2.2 q.1 s := by
    intro k i l n h1 h2 h3
    have hw := fl_blk hg h1
    have hex : (Cond.exactly (tmZ k) "java/lang/String").before args s = true := hw _ List.mem_cons_self
    have hco : (Cond.eq (.field (tmZ k) "java/lang/String" "coder" "B") (.int 0)).before args s = true := hw _ (List.mem_cons_of_mem _ List.mem_cons_self)
    obtain ⟨t, e, hT⟩ := of_wTa (tm := tmZv k) (ty := .byte) (xs := stS k) (fun c hc => hw c (List.mem_cons_of_mem _ (List.mem_cons_of_mem _ hc))) h3 hA
    obtain ⟨a, c, cA, kA, q1, q2, q3, q4, q5, q6, -⟩ := Cond.exactly_spec (args := args) (first := s) (o := none) (s := s) (idx := []) (t := tmZ k) (cls := "java/lang/String") hex
    exact ⟨(a, t), va_Oof hex q1 hA, vk_OFof q1 (va_eqt hco) hA, vk_OFof q1 e hA, hT, vk_R.of (A := args) (ht _ (List.mem_of_getElem? h2)) q1⟩
  rcases (show k = 0 ∨ k = 1 ∨ k = 2 ∨ k = 3 ∨ k = 4 ∨ k = 5 ∨ k = 6 ∨ k = 7 ∨ k = 8 ∨ k = 9 ∨ k = 10 ∨ k = 11 ∨ k = 12 ∨ k = 13 ∨ k = 14 ∨ k = 15 by omega) with rfl | rfl | rfl | rfl | rfl | rfl | rfl | rfl | rfl | rfl | rfl | rfl | rfl | rfl | rfl | rfl
  · exact go f61_0 l61_0 (by decide)
  · exact go f61_1 l61_1 (by decide)
  · exact go f61_2 l61_2 (by decide)
  · exact go f61_3 l61_3 (by decide)
  · exact go f61_4 l61_4 (by decide)
  · exact go f61_5 l61_5 (by decide)
  · exact go f61_6 l61_6 (by decide)
  · exact go f61_7 l61_7 (by decide)
  · exact go f61_8 l61_8 (by decide)
  · exact go f61_9 l61_9 (by decide)
  · exact go f61_10 l61_10 (by decide)
  · exact go f61_11 l61_11 (by decide)
  · exact go f61_12 l61_12 (by decide)
  · exact go f61_13 l61_13 (by decide)
  · exact go f61_14 l61_14 (by decide)
  · exact go f61_15 l61_15 (by decide)
/-- the tables' words that are used everywhere -/
theorem eGW (ht : ∀ w ∈ lw_tbl, w.before args s = true) : ∀ w ∈ GW, w.before args s = true := by
  have h1 : ∀ w ∈ tables_1, w.before args s = true := fun w hw => ht w (List.mem_append_right _ hw)
  have g : ∀ {i : Nat} {w : Cond}, tables_1[i]? = some w → w.before args s = true := fun h => h1 _ (List.mem_of_getElem? h)
  intro w hw
  rcases List.mem_append.mp (List.mem_filter.mp hw).1 with h | h
  · rcases List.mem_cons.mp h with rfl | h
    · exact sel_priv (n0 := "isLatin1") (d0 := "()Z") (g w_inst) (g w_same) (g w_pr273) (g l_im273) (by decide)
    · rcases List.mem_cons.mp h with rfl | h
      · exact sel_priv (n0 := "isLatin1") (d0 := "()Z") (g w_inst) (g w_same) (g w_pr274) (g l_im274) (by decide)
      · cases h
  · exact ht w h
/-- the classes -/
theorem eKls (hG : ∀ w ∈ GW, w.before args s = true) (ht : ∀ c ∈ tables_1, c.before args s = true) : ∃ (D : va_G) (ci cb cn : ClassId), va_K D vwCl [(ci, .int), (cb, .byte), (cn, .object RX0)] s := by
  have g : ∀ {i : Nat} {w : Cond}, tables_1[i]? = some w → w.before args s = true := fun h => ht _ (List.mem_of_getElem? h)
  have hi : ∀ c, c < 8 → (Cond.instantiable (cN c) (nf c)).before args s = true := by
    intro c hc
    rcases (show c = 0 ∨ c = 1 ∨ c = 2 ∨ c = 3 ∨ c = 4 ∨ c = 5 ∨ c = 6 ∨ c = 7 by omega) with rfl | rfl | rfl | rfl | rfl | rfl | rfl | rfl
    · exact g l_in0
    · exact g l_in1
    · exact g l_in2
    · exact g l_in3
    · exact g l_in4
    · exact g l_in5
    · exact g l_in6
    · exact g l_in7
  have h0 : ∀ c : Nat, ∃ q : ClassId × (Nat → Nat), c < 8 → u_Kn s (cN c) (fT c) (nf c) q.1 q.2 := by
    intro c
    by_cases hc : c < 8
    · obtain ⟨cC, iS, h⟩ := u_known (C := cN c) (T := fT c) (N := nf c) (n := nf c) hG (lay_in hc) (hi c hc)
      exact ⟨(cC, iS), fun _ => h⟩
    · exact ⟨(0, fun _ => 0), fun h => absurd h hc⟩
  obtain ⟨q, hq⟩ := Classical.axiomOfChoice h0
  obtain ⟨ci, ki, mi, a1, a2, a3⟩ := Cond.arrayClass_spec (g l_ai)
  obtain ⟨cb, kb, mb, b1, b2, b3⟩ := Cond.arrayClass_spec (g l_ab)
  obtain ⟨comp, cn, kn, n1, n2, n3, n4, n5⟩ := Cond.arrayOver_spec (g l_ao)
  refine ⟨(fun c => (q c).1, fun c => (q c).2), ci, cb, cn, fun c r hr => ?_, fun k r hr => ?_⟩
  · have hc : c < 8 := (List.getElem?_eq_some_iff.mp hr).1
    have e := (vw_at hc).symm.trans hr
    injection e with e
    subst e
    exact hq c hc
  · have hk : k < 3 := (List.getElem?_eq_some_iff.mp hr).1
    rcases (show k = 0 ∨ k = 1 ∨ k = 2 by omega) with rfl | rfl | rfl
    · cases hr
      exact ⟨fun n z => ⟨(fun k h => by cases h), ki, a2, mi, a3⟩, a1⟩
    · cases hr
      exact ⟨fun n z => ⟨(fun k h => by cases h), kb, b2, mb, b3⟩, b1⟩
    · cases hr
      exact ⟨fun n z => ⟨(fun k h => by cases h), kn, n3, comp, n4⟩, kn, comp, n3, n4, n1, n5⟩
/-- all of it, for a script of L ints xs at b -/
theorem eSta (ht : ∀ w ∈ lw_tbl, w.before args s = true) (hg : ∀ c ∈ flW, c.before args s = true) {b L : Nat} {xs : Nat → Int32} (hX : va_X b L xs s s.heap) (hb : b < s.heap.size) : ∃ C : Ctx, cB0 C = s.heap.size ∧ cSA C 63 0 = b ∧ Sta C L xs s := by
  have h1 : ∀ w ∈ tables_1, w.before args s = true := fun w hw => ht w (List.mem_append_right _ hw)
  have g : ∀ {i : Nat} {w : Cond}, tables_1[i]? = some w → w.before args s = true := fun h => h1 _ (List.mem_of_getElem? h)
  have hA : ∀ a : Nat, a < s.heap.size → ¬ (fun q : Nat => s.heap.size ≤ q) a := fun a h => Nat.not_le.mpr h
  obtain ⟨D, ci, cb, cn, hK⟩ := eKls (eGW ht) h1
  have h60 : ∀ k : Nat, ∃ t : Nat, k < 11 → va_Z RX5 (stN k) "[I" (.ref t) (fun q : Nat => s.heap.size ≤ q) s s.heap ∧ va_T .int t (stI k).length (fun j => .int ((stI k).getD j 0)) (fun q : Nat => s.heap.size ≤ q) s s.heap := by
    intro k
    by_cases hk : k < 11
    · obtain ⟨t, h⟩ := e60 hg h1 hA k hk
      exact ⟨t, fun _ => h⟩
    · exact ⟨0, fun h => absurd h hk⟩
  have h64 : ∀ k : Nat, ∃ t : Nat, k < 2 → va_Z "java/lang/Integer" (stDN k) "[B" (.ref t) (fun q : Nat => s.heap.size ≤ q) s s.heap ∧ va_T .byte t 100 (fun j => .int ((stD k).getD j 0)) (fun q : Nat => s.heap.size ≤ q) s s.heap := by
    intro k
    by_cases hk : k < 2
    · obtain ⟨t, h⟩ := e64 hg h1 hA k hk
      exact ⟨t, fun _ => h⟩
    · exact ⟨0, fun h => absurd h hk⟩
  have h61 : ∀ k : Nat, ∃ q : Nat × Nat, k < 16 → va_O "java/lang/String" q.1 (fun q : Nat => s.heap.size ≤ q) s s.heap ∧ va_OF "java/lang/String" "coder" "B" (.int 0) q.1 (fun q : Nat => s.heap.size ≤ q) s s.heap ∧ va_OF "java/lang/String" "value" "[B" (.ref q.2) q.1 (fun q : Nat => s.heap.size ≤ q) s s.heap ∧ va_T .byte q.2 (stS k).length (fun j => .int ((stS k).getD j 0)) (fun q : Nat => s.heap.size ≤ q) s s.heap ∧ vk_R (stQ k).1 (stQ k).2.1 (stQ k).2.2 q.1 s := by
    intro k
    by_cases hk : k < 16
    · obtain ⟨t, h⟩ := e61 hg h1 hA k hk
      exact ⟨t, fun _ => h⟩
    · exact ⟨(0, 0), fun h => absurd h hk⟩
  obtain ⟨a60, q60⟩ := Classical.axiomOfChoice h60
  obtain ⟨a64, q64⟩ := Classical.axiomOfChoice h64
  obtain ⟨a61, q61⟩ := Classical.axiomOfChoice h61
  have hcs : va_Z "java/lang/String" "COMPACT_STRINGS" "Z" (.int 1) (fun q : Nat => s.heap.size ≤ q) s s.heap := va_Zof (g l_cs) (g l_iS) (va_eqi (hg _ (List.mem_of_getElem? f_cs))) hA
  obtain ⟨sq, hsq, hsq2⟩ : ∃ v : Value, va_Z "jdk/internal/util/Preconditions" "SIOOBE_FORMATTER" "Ljava/util/function/BiFunction;" v (fun q : Nat => s.heap.size ≤ q) s s.heap ∧ (v = .null ∨ ∃ a, v = .ref a) := by
    rcases va_Zqof (g l_sq) (g l_iP) (hg _ (List.mem_of_getElem? f_sq)) hA with h | ⟨t, h⟩
    · exact ⟨_, h, Or.inl rfl⟩
    · exact ⟨_, h, Or.inr ⟨t, rfl⟩⟩
  have hN : ∀ w ∈ NW, va_Nw w s := by
    intro w hw
    have hn := (List.mem_filter.mp hw).2
    have hb := h1 w (List.mem_filter.mp hw).1
    cases w <;> simp only [isNest] at hn <;> first | exact absurd hn (by decide) | exact va_Nw.of rfl hb
  refine ⟨(D, ci, cb, cn, s.heap.size, fun t k => if t = 60 then a60 k else if t = 61 then (a61 k).1 else if t = 62 then (a61 k).2 else if t = 64 then a64 k else b, sq), rfl, rfl, hK, hN, va_AO.of (g l_ao), fun k hk => q60 k hk, fun k hk => q64 k hk, hcs, ⟨hsq, hsq2⟩, fun k hk => q61 k hk, hX, hA b hb⟩
end ENTRY
