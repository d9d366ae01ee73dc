/-! THE MODEL's constructor -/
/-- numbers stored one behind another -/
def sIs (m : Mem) (t n : Nat) : Nat → List Int32 → Mem
  | _, [] => m
  | k, v :: l => sIs (sI m t n k v) t n (k + 1) l
theorem sIs_2 {t n : Nat} : ∀ (l : List Int32) (m : Mem) (k : Nat), (sIs m t n k l).2 = m.2
  | [], _, _ => rfl
  | v :: l, m, k => sIs_2 l (sI m t n k v) (k + 1)
theorem sIs_o {t n t' n' k' : Nat} (h : n' ≠ n) : ∀ (l : List Int32) (m : Mem) (k : Nat), gI (sIs m t n k l) t' n' k' = gI m t' n' k'
  | [], _, _ => rfl
  | v :: l, m, k => (sIs_o h l (sI m t n k v) (k + 1)).trans (by rw [gI_s, if_neg (by omega)])
theorem sIs_lo {t n k' : Nat} : ∀ (l : List Int32) (m : Mem) (k : Nat), k' < k → gI (sIs m t n k l) t n k' = gI m t n k'
  | [], _, _, _ => rfl
  | v :: l, m, k, h => (sIs_lo l (sI m t n k v) (k + 1) (by omega)).trans (by rw [gI_s, if_neg (by omega)])
theorem sIs_at {t n : Nat} : ∀ (l : List Int32) (m : Mem) (k j : Nat), j < l.length → gI (sIs m t n k l) t n (k + j) = l.getD j 0
  | [], _, _, j, h => absurd h (Nat.not_lt_zero _)
  | v :: l, m, k, 0, h => by
    show gI (sIs (sI m t n k v) t n (k + 1) l) t n k = v
    rw [sIs_lo l _ _ (by omega), gI_s, if_pos ⟨rfl, rfl, rfl⟩]
  | v :: l, m, k, j + 1, h => by
    have := sIs_at (t := t) (n := n) l (sI m t n k v) (k + 1) j (by simpa using h)
    rw [show k + (j + 1) = k + 1 + j by omega]
    exact this
def fkM (i : Nat) : Nat := [1, 2, 3, 4, 5, 6, 7, 8, 18, 25, 31, 32, 33, 34, 35, 36, 37, 38, 39, 40, 41, 42, 53, 55].getD i 0
theorem fkM_ne : ∀ i, i < 24 → ∀ j, j < 24 → i ≠ j → fkM i ≠ fkM j := by decide
/-- j of the Model's arrays stand -/
def IM (m m1 : Mem) (j B : Nat) : Prop := (nX m1 = 232 + j ∧ nS m1 ≤ nS m + B) ∧ KX m m1 231 ∧ rgn m1 231 = 23 ∧ (∀ i, i < j → rgn m1 (232 + i) = 24 + i ∧ gP m1 23 231 (fkM i) = some (24 + i, 232 + i)) ∧ ∀ k, k ≠ 13 → gI m1 23 231 k = 0
theorem IM.step {m m1 m2 : Mem} {j B z : Nat} (h : IM m m1 j B) (hX : nX m = 232) (hj : j < 24) (e2 : m2.2 = (al m1 (24 + j) z).2) (e1 : ∀ t n k, n ≠ nX m1 → gI m2 t n k = gI m1 t n k) :
    IM m (sP m2 23 231 (fkM j) (some (24 + j, nX m1))) (j + 1) (B + z) ∧ KX m1 (sP m2 23 231 (fkM j) (some (24 + j, nX m1))) 231 ∧ ∀ k, gI (sP m2 23 231 (fkM j) (some (24 + j, nX m1))) 23 231 k = gI m1 23 231 k := by
  obtain ⟨⟨x1, y1⟩, F1, r1, q1, i1⟩ := h
  have x2 : nX m2 = nX m1 + 1 := by unfold nX; rw [e2]; rfl
  have y2 : nS m2 = nS m1 + z := by unfold nS; rw [e2]; rfl
  have rg : ∀ n, rgn m2 n = if n = nX m1 then 24 + j else rgn m1 n := fun n => by unfold rgn; rw [e2]; rfl
  have gp : ∀ t n k, gP m2 t n k = if n = nX m1 then none else gP m1 t n k := fun t n k => by unfold gP; rw [e2]; rfl
  have gl : ∀ t n, n ≠ nX m1 → gL m2 t n = gL m1 t n := fun t n hn => by
    have : gL m2 t n = gL (al m1 (24 + j) z) t n := by unfold gL; rw [e2]
    rw [this, gL_al, if_neg hn]
  have F2 : KX m1 m2 231 := ⟨by omega, fun n hn _ => ⟨by rw [rg, if_neg (by omega)], fun t k => ⟨e1 t n k (by omega), by rw [gp, if_neg (by omega)], gl t n (by omega)⟩⟩⟩
  have F3 : KX m1 (sP m2 23 231 (fkM j) (some (24 + j, nX m1))) 231 := F2.tr KX.sP (Or.inl rfl)
  refine ⟨⟨⟨by show nX m2 = _; omega, by show nS m2 ≤ _; omega⟩, F1.tr F3 (Or.inl rfl), ?_, fun i hi => ?_, fun k hk => ?_⟩, F3, fun k => ?_⟩
  · show rgn m2 231 = 23
    rw [rg, if_neg (by omega)]; exact r1
  · by_cases e : i = j
    · subst e
      refine ⟨?_, ?_⟩
      · show rgn m2 (232 + i) = 24 + i
        rw [rg, if_pos (by omega)]
      · rw [gP_s, if_pos ⟨rfl, rfl, rfl⟩, x1]
    · have := q1 i (by omega)
      refine ⟨?_, ?_⟩
      · show rgn m2 (232 + i) = 24 + i
        rw [rg, if_neg (by omega)]; exact this.1
      · rw [gP_s, if_neg (fun c => fkM_ne i (by omega) j hj e c.1), gp, if_neg (by omega)]; exact this.2
  · show gI m2 23 231 k = 0
    rw [e1 23 231 k (by omega)]; exact i1 k hk
  · show gI m2 23 231 k = gI m1 23 231 k
    exact e1 23 231 k (by omega)
theorem IM.put {m m1 : Mem} {j B : Nat} {v : Int32} (h : IM m m1 j B) : IM m (sI m1 23 231 13 v) j B ∧ KX m1 (sI m1 23 231 13 v) 231 := by
  obtain ⟨⟨x1, y1⟩, F1, r1, q1, i1⟩ := h
  exact ⟨⟨⟨x1, y1⟩, F1.tr KX.sI (Or.inl rfl), r1, q1, fun k hk => by rw [gI_s, if_neg (by omega)]; exact i1 k hk⟩, KX.sI⟩
/-- what stands behind it -/
def MB0 (m : Mem) : Prop := (∀ k, k < 7 → gI m 24 232 k = iZ (tm0 k) ∧ gI m 25 233 k = iZ (loT k) ∧ gI m 26 234 k = iZ (hiT k) ∧ gI m 27 235 k = iZ (bsN k)) ∧ (gI m 28 236 0 = 3 ∧ gI m 28 236 1 = 0 ∧ gI m 28 236 2 = 4 ∧ gI m 28 236 3 = 1 ∧ gI m 28 236 4 = 5 ∧ gI m 28 236 5 = 2 ∧ gI m 28 236 6 = 6) ∧ MWd m ∧ (∀ k, gI m 29 237 k = 0) ∧ (∀ k, gI m 31 239 k = 0) ∧ (∀ k, k ≠ 13 → gI m 23 231 k = 0) ∧ gI m 23 231 13 = -1
section CTOR4
variable {m : Mem} {K : Option SV → Mem → Prop}
def wL : List Int32 := ([107, 101, 121, 0, 109, 101, 116, 101, 114, 0, 115, 112, 101, 101, 100, 0, 114, 101, 115, 116, 0, 110, 111, 116, 101, 0, 116, 105, 101, 0, 103, 114, 0, 97, 112, 0, 115, 108, 0, 116, 114, 0, 109, 111, 0, 112, 114, 0, 116, 117, 0, 100, 116, 0, 105, 116, 0, 108, 109, 0, 100, 99, 0, 117, 112, 0, 100, 111, 119, 110, 0, 110, 98, 0, 97, 110, 0] : List Int32).map (fun x => x.toInt8.toInt32)
def aL24 : List Int32 := [70, 32, 1, 1, 0, 100, 0]
def aL25 : List Int32 := [20, 8, 0, 0, 0, 25, 0]
def aL26 : List Int32 := [250, 64, 1, 1, 1, 400, 1]
def aL27 : List Int32 := [0, 2, 4, 5, 7, 9, 11]
def aL28 : List Int32 := [3, 0, 4, 1, 5, 2, 6]
theorem wL_ok : ∀ k, k < 77 → wL.getD k 0 = iZ (wtab k) := by decide +kernel
theorem aL_ok : ∀ k, k < 7 → aL24.getD k 0 = iZ (tm0 k) ∧ aL25.getD k 0 = iZ (loT k) ∧ aL26.getD k 0 = iZ (hiT k) ∧ aL27.getD k 0 = iZ (bsN k) := by decide +kernel
theorem M_init (hX : nX m = 232) (hr : rgn m 231 = 23) (h0 : ∀ k, gI m 23 231 k = 0) (hk : ∀ m', nX m' = 256 → nS m' ≤ nS m + 40000 → KX m m' 231 → (∀ n, 231 ≤ n → n < 256 → FQ m' n) → MB0 m' → K none m') : smC false 132 [vR (some (23, 231))] m K := by
  have fin : ∀ (mF : Mem) (B : Nat) (m1 : Mem), IM m mF 24 B → B ≤ 40000 → nX m1 = 241 → KX m1 mF 231 → (∀ k, k < 7 → gI m1 24 232 k = iZ (tm0 k) ∧ gI m1 25 233 k = iZ (loT k) ∧ gI m1 26 234 k = iZ (hiT k) ∧ gI m1 27 235 k = iZ (bsN k)) → (∀ j, j < 7 → gI m1 28 236 j = aL28.getD j 0) → (∀ k, gI m1 29 237 k = 0) → (∀ k, gI m1 31 239 k = 0) → MWd m1 → gI mF 23 231 13 = -1 → K none mF := by
    intro mF B m1 g hB x1 F a1 a2 a3 a4 a5 k13
    obtain ⟨⟨gx, gy⟩, gF, gr, gq, gi⟩ := g
    refine hk mF gx (by omega) gF (fun n hn hn2 => ?_) ?_
    · by_cases e : n = 231
      · subst e
        intro k a b1 _
        rw [gr] at b1 ⊢
        unfold FR at b1
        simp only at b1
        split at b1
        · injection b1 with b1; rw [← b1]; exact (gq 0 (by decide)).2
        · injection b1 with b1; rw [← b1]; exact (gq 1 (by decide)).2
        · injection b1 with b1; rw [← b1]; exact (gq 2 (by decide)).2
        · injection b1 with b1; rw [← b1]; exact (gq 3 (by decide)).2
        · injection b1 with b1; rw [← b1]; exact (gq 4 (by decide)).2
        · injection b1 with b1; rw [← b1]; exact (gq 5 (by decide)).2
        · injection b1 with b1; rw [← b1]; exact (gq 6 (by decide)).2
        · injection b1 with b1; rw [← b1]; exact (gq 7 (by decide)).2
        · injection b1 with b1; rw [← b1]; exact (gq 8 (by decide)).2
        · injection b1 with b1; rw [← b1]; exact (gq 9 (by decide)).2
        · injection b1 with b1; rw [← b1]; exact (gq 10 (by decide)).2
        · injection b1 with b1; rw [← b1]; exact (gq 11 (by decide)).2
        · injection b1 with b1; rw [← b1]; exact (gq 12 (by decide)).2
        · injection b1 with b1; rw [← b1]; exact (gq 13 (by decide)).2
        · injection b1 with b1; rw [← b1]; exact (gq 14 (by decide)).2
        · injection b1 with b1; rw [← b1]; exact (gq 15 (by decide)).2
        · injection b1 with b1; rw [← b1]; exact (gq 16 (by decide)).2
        · injection b1 with b1; rw [← b1]; exact (gq 17 (by decide)).2
        · injection b1 with b1; rw [← b1]; exact (gq 18 (by decide)).2
        · injection b1 with b1; rw [← b1]; exact (gq 19 (by decide)).2
        · injection b1 with b1; rw [← b1]; exact (gq 20 (by decide)).2
        · injection b1 with b1; rw [← b1]; exact (gq 21 (by decide)).2
        · injection b1 with b1; rw [← b1]; exact (gq 22 (by decide)).2
        · injection b1 with b1; rw [← b1]; exact (gq 23 (by decide)).2
        · cases b1
      · have hq := (gq (n - 232) (by omega)).1
        rw [show 232 + (n - 232) = n by omega] at hq
        refine FQ.no (fun k => ?_)
        rw [hq]
        have : ∀ t, 24 ≤ t → t < 48 → FR t k n = none := by
          intro t t1 t2
          have hc : t = 24 ∨ t = 25 ∨ t = 26 ∨ t = 27 ∨ t = 28 ∨ t = 29 ∨ t = 30 ∨ t = 31 ∨ t = 32 ∨ t = 33 ∨ t = 34 ∨ t = 35 ∨ t = 36 ∨ t = 37 ∨ t = 38 ∨ t = 39 ∨ t = 40 ∨ t = 41 ∨ t = 42 ∨ t = 43 ∨ t = 44 ∨ t = 45 ∨ t = 46 ∨ t = 47 := by omega
          rcases hc with rfl | rfl | rfl | rfl | rfl | rfl | rfl | rfl | rfl | rfl | rfl | rfl | rfl | rfl | rfl | rfl | rfl | rfl | rfl | rfl | rfl | rfl | rfl | rfl <;> rfl
        exact this _ (by omega) (by omega)
    · have fI : ∀ {n t k : Nat}, n < 241 → n ≠ 231 → gI mF t n k = gI m1 t n k := fun c1 c2 => F.fI (by omega) c2 _ _
      exact ⟨fun k hk => ⟨(fI (by decide) (by decide)).trans (a1 k hk).1, (fI (by decide) (by decide)).trans (a1 k hk).2.1, (fI (by decide) (by decide)).trans (a1 k hk).2.2.1, (fI (by decide) (by decide)).trans (a1 k hk).2.2.2⟩, ⟨(fI (by decide) (by decide)).trans (a2 0 (by decide)), (fI (by decide) (by decide)).trans (a2 1 (by decide)), (fI (by decide) (by decide)).trans (a2 2 (by decide)), (fI (by decide) (by decide)).trans (a2 3 (by decide)), (fI (by decide) (by decide)).trans (a2 4 (by decide)), (fI (by decide) (by decide)).trans (a2 5 (by decide)), (fI (by decide) (by decide)).trans (a2 6 (by decide))⟩, fun k hk => (fI (by decide) (by decide)).trans (a5 k hk), fun k => (fI (by decide) (by decide)).trans (a3 k), fun k => (fI (by decide) (by decide)).trans (a4 k), gi, k13⟩
  have st679 : ∀ m1, IM m m1 9 4150 → (∀ k, k < 7 → gI m1 24 232 k = iZ (tm0 k) ∧ gI m1 25 233 k = iZ (loT k) ∧ gI m1 26 234 k = iZ (hiT k) ∧ gI m1 27 235 k = iZ (bsN k)) → (∀ j, j < 7 → gI m1 28 236 j = aL28.getD j 0) → (∀ k, gI m1 29 237 k = 0) → (∀ k, gI m1 31 239 k = 0) → MWd m1 → gI m1 23 231 13 = -1 → smE false 132 679 [some (vR (some (23, 231)))] [] m1 K := by
    intro m1 h1 a1 a2 a3 a4 a5 a6
    refine wp_ok (by decide) OK_132 (cc := cd_132) rfl (stops := []) 70 _ _ _ _ ?_
    refine And.intro ⟨by decide, rfl⟩ ?_
    refine And.intro ⟨by decide, rfl⟩ ?_
    refine And.intro ⟨by decide, rfl⟩ ?_
    refine And.intro ⟨by decide, rfl⟩ ?_
    refine And.intro ⟨by decide, rfl⟩ ?_
    refine And.intro ⟨by decide, rfl⟩ ?_
    refine And.intro ⟨by decide, rfl⟩ ?_
    refine And.intro ⟨by decide, rfl⟩ ?_
    refine And.intro ⟨by decide, rfl⟩ ?_
    refine And.intro ⟨by decide, rfl⟩ ?_
    refine And.intro ⟨by decide, rfl⟩ ?_
    refine And.intro ⟨by decide, rfl⟩ ?_
    refine And.intro ⟨by decide, rfl⟩ ?_
    refine And.intro ⟨by decide, rfl⟩ ?_
    refine And.intro ⟨by decide, rfl⟩ ?_
    refine And.intro trivial ?_
    obtain ⟨g0, f0, c0⟩ := IM.step (m2 := al _ 33 63) h1 hX (by decide) rfl (fun t n k hn => by rw [gI_al, if_neg hn])
    obtain ⟨g1, f1, c1⟩ := IM.step (m2 := al _ 34 3600) g0 hX (by decide) rfl (fun t n k hn => by rw [gI_al, if_neg hn])
    obtain ⟨g2, f2, c2⟩ := IM.step (m2 := al _ 35 3600) g1 hX (by decide) rfl (fun t n k hn => by rw [gI_al, if_neg hn])
    obtain ⟨g3, f3, c3⟩ := IM.step (m2 := al _ 36 3600) g2 hX (by decide) rfl (fun t n k hn => by rw [gI_al, if_neg hn])
    obtain ⟨g4, f4, c4⟩ := IM.step (m2 := al _ 37 3600) g3 hX (by decide) rfl (fun t n k hn => by rw [gI_al, if_neg hn])
    obtain ⟨g5, f5, c5⟩ := IM.step (m2 := al _ 38 3600) g4 hX (by decide) rfl (fun t n k hn => by rw [gI_al, if_neg hn])
    obtain ⟨g6, f6, c6⟩ := IM.step (m2 := al _ 39 3600) g5 hX (by decide) rfl (fun t n k hn => by rw [gI_al, if_neg hn])
    obtain ⟨g7, f7, c7⟩ := IM.step (m2 := al _ 40 3600) g6 hX (by decide) rfl (fun t n k hn => by rw [gI_al, if_neg hn])
    obtain ⟨g8, f8, c8⟩ := IM.step (m2 := al _ 41 48) g7 hX (by decide) rfl (fun t n k hn => by rw [gI_al, if_neg hn])
    obtain ⟨g9, f9, c9⟩ := IM.step (m2 := al _ 42 48) g8 hX (by decide) rfl (fun t n k hn => by rw [gI_al, if_neg hn])
    obtain ⟨g10, f10, c10⟩ := IM.step (m2 := al _ 43 144) g9 hX (by decide) rfl (fun t n k hn => by rw [gI_al, if_neg hn])
    obtain ⟨g11, f11, c11⟩ := IM.step (m2 := al _ 44 48) g10 hX (by decide) rfl (fun t n k hn => by rw [gI_al, if_neg hn])
    obtain ⟨g12, f12, c12⟩ := IM.step (m2 := al _ 45 48) g11 hX (by decide) rfl (fun t n k hn => by rw [gI_al, if_neg hn])
    obtain ⟨g13, f13, c13⟩ := IM.step (m2 := al _ 46 60) g12 hX (by decide) rfl (fun t n k hn => by rw [gI_al, if_neg hn])
    obtain ⟨g14, f14, c14⟩ := IM.step (m2 := al _ 47 30) g13 hX (by decide) rfl (fun t n k hn => by rw [gI_al, if_neg hn])
    have F := ((((((((((((((f0.tr f1 (Or.inl rfl)).tr f2 (Or.inl rfl)).tr f3 (Or.inl rfl)).tr f4 (Or.inl rfl)).tr f5 (Or.inl rfl)).tr f6 (Or.inl rfl)).tr f7 (Or.inl rfl)).tr f8 (Or.inl rfl)).tr f9 (Or.inl rfl)).tr f10 (Or.inl rfl)).tr f11 (Or.inl rfl)).tr f12 (Or.inl rfl)).tr f13 (Or.inl rfl)).tr f14 (Or.inl rfl))
    have k14 := (c14 13).trans ((c13 13).trans ((c12 13).trans ((c11 13).trans ((c10 13).trans ((c9 13).trans ((c8 13).trans ((c7 13).trans ((c6 13).trans ((c5 13).trans ((c4 13).trans ((c3 13).trans ((c2 13).trans ((c1 13).trans ((c0 13).trans a6))))))))))))))
    exact fin _ _ m1 g14 (by decide) h1.1.1 F a1 a2 a3 a4 a5 k14
  have st236 : ∀ m1, IM m m1 8 4073 → (∀ k, k < 7 → gI m1 24 232 k = iZ (tm0 k) ∧ gI m1 25 233 k = iZ (loT k) ∧ gI m1 26 234 k = iZ (hiT k) ∧ gI m1 27 235 k = iZ (bsN k)) → (∀ j, j < 7 → gI m1 28 236 j = aL28.getD j 0) → (∀ k, gI m1 29 237 k = 0) → (∀ k, gI m1 31 239 k = 0) → gI m1 23 231 13 = -1 → smE false 132 236 [some (vR (some (23, 231)))] [] m1 K := by
    intro m1 h1 a1 a2 a3 a4 a6
    refine wp_ok (by decide) OK_132 (cc := cd_132) rfl (stops := [679]) 400 _ _ _ _ ?_
    refine And.intro ⟨by decide, rfl⟩ ?_
    refine And.intro (vpd (by decide)) ?_
    refine And.intro (vpd (by decide)) ?_
    refine And.intro (vpd (by decide)) ?_
    refine And.intro (vpd (by decide)) ?_
    refine And.intro (vpd (by decide)) ?_
    refine And.intro (vpd (by decide)) ?_
    refine And.intro (vpd (by decide)) ?_
    refine And.intro (vpd (by decide)) ?_
    refine And.intro (vpd (by decide)) ?_
    refine And.intro (vpd (by decide)) ?_
    refine And.intro (vpd (by decide)) ?_
    refine And.intro (vpd (by decide)) ?_
    refine And.intro (vpd (by decide)) ?_
    refine And.intro (vpd (by decide)) ?_
    refine And.intro (vpd (by decide)) ?_
    refine And.intro (vpd (by decide)) ?_
    refine And.intro (vpd (by decide)) ?_
    refine And.intro (vpd (by decide)) ?_
    refine And.intro (vpd (by decide)) ?_
    refine And.intro (vpd (by decide)) ?_
    refine And.intro (vpd (by decide)) ?_
    refine And.intro (vpd (by decide)) ?_
    refine And.intro (vpd (by decide)) ?_
    refine And.intro (vpd (by decide)) ?_
    refine And.intro (vpd (by decide)) ?_
    refine And.intro (vpd (by decide)) ?_
    refine And.intro (vpd (by decide)) ?_
    refine And.intro (vpd (by decide)) ?_
    refine And.intro (vpd (by decide)) ?_
    refine And.intro (vpd (by decide)) ?_
    refine And.intro (vpd (by decide)) ?_
    refine And.intro (vpd (by decide)) ?_
    refine And.intro (vpd (by decide)) ?_
    refine And.intro (vpd (by decide)) ?_
    refine And.intro (vpd (by decide)) ?_
    refine And.intro (vpd (by decide)) ?_
    refine And.intro (vpd (by decide)) ?_
    refine And.intro (vpd (by decide)) ?_
    refine And.intro (vpd (by decide)) ?_
    refine And.intro (vpd (by decide)) ?_
    refine And.intro (vpd (by decide)) ?_
    refine And.intro (vpd (by decide)) ?_
    refine And.intro (vpd (by decide)) ?_
    refine And.intro (vpd (by decide)) ?_
    refine And.intro (vpd (by decide)) ?_
    refine And.intro (vpd (by decide)) ?_
    refine And.intro (vpd (by decide)) ?_
    refine And.intro (vpd (by decide)) ?_
    refine And.intro (vpd (by decide)) ?_
    refine And.intro (vpd (by decide)) ?_
    refine And.intro (vpd (by decide)) ?_
    refine And.intro (vpd (by decide)) ?_
    refine And.intro (vpd (by decide)) ?_
    refine And.intro (vpd (by decide)) ?_
    refine And.intro (vpd (by decide)) ?_
    refine And.intro (vpd (by decide)) ?_
    refine And.intro (vpd (by decide)) ?_
    refine And.intro (vpd (by decide)) ?_
    refine And.intro (vpd (by decide)) ?_
    refine And.intro (vpd (by decide)) ?_
    refine And.intro (vpd (by decide)) ?_
    refine And.intro (vpd (by decide)) ?_
    refine And.intro (vpd (by decide)) ?_
    refine And.intro (vpd (by decide)) ?_
    refine And.intro (vpd (by decide)) ?_
    refine And.intro (vpd (by decide)) ?_
    refine And.intro (vpd (by decide)) ?_
    refine And.intro (vpd (by decide)) ?_
    refine And.intro (vpd (by decide)) ?_
    refine And.intro (vpd (by decide)) ?_
    refine And.intro (vpd (by decide)) ?_
    refine And.intro (vpd (by decide)) ?_
    refine And.intro (vpd (by decide)) ?_
    refine And.intro (vpd (by decide)) ?_
    refine And.intro (vpd (by decide)) ?_
    refine And.intro (vpd (by decide)) ?_
    refine And.intro (vpd (by decide)) ?_
    refine And.intro trivial ?_
    show smE false 132 679 [some (vR (some (23, 231)))] [] (sP (sIs (al m1 32 77) 32 (nX m1) 0 wL) 23 231 18 (some (32, nX m1))) K
    obtain ⟨g, f, _⟩ := IM.step (j := 8) (z := 77) (m2 := sIs (al m1 32 77) 32 (nX m1) 0 wL) h1 hX (by decide) (sIs_2 _ _ _) (fun t n k hn => by rw [sIs_o hn, gI_al, if_neg hn])
    have x1 : nX m1 = 240 := h1.1.1
    have fI : ∀ {n t k : Nat}, n < 240 → n ≠ 231 → gI (sP (sIs (al m1 32 77) 32 (nX m1) 0 wL) 23 231 (fkM 8) (some (24 + 8, nX m1))) t n k = gI m1 t n k := fun c1 c2 => f.fI (by omega) c2 _ _
    refine st679 _ g (fun k hk => ⟨(fI (by decide) (by decide)).trans (a1 k hk).1, (fI (by decide) (by decide)).trans (a1 k hk).2.1, (fI (by decide) (by decide)).trans (a1 k hk).2.2.1, (fI (by decide) (by decide)).trans (a1 k hk).2.2.2⟩) (fun j hj => (fI (by decide) (by decide)).trans (a2 j hj)) (fun k => (fI (by decide) (by decide)).trans (a3 k)) (fun k => (fI (by decide) (by decide)).trans (a4 k)) (fun k hk => ?_) ?_
    · have := sIs_at (t := 32) (n := nX m1) wL (al m1 32 77) 0 k hk
      rw [Nat.zero_add] at this
      rw [wL_ok k hk] at this
      show gI (sIs (al m1 32 77) 32 (nX m1) 0 wL) 32 240 k = iZ (wtab k)
      rw [← x1]; exact this
    · show gI (sIs (al m1 32 77) 32 (nX m1) 0 wL) 23 231 13 = -1
      rw [sIs_o (by omega), gI_al, if_neg (by omega)]; exact a6
  have st204 : ∀ m1, IM m m1 5 35 → (∀ k, k < 7 → gI m1 24 232 k = iZ (tm0 k) ∧ gI m1 25 233 k = iZ (loT k) ∧ gI m1 26 234 k = iZ (hiT k) ∧ gI m1 27 235 k = iZ (bsN k)) → (∀ j, j < 7 → gI m1 28 236 j = aL28.getD j 0) → smE false 132 204 [some (vR (some (23, 231)))] [] m1 K := by
    intro m1 h1 a1 a2
    refine wp_ok (by decide) OK_132 (cc := cd_132) rfl (stops := [236]) 40 _ _ _ _ ?_
    refine And.intro ⟨by decide, rfl⟩ ?_
    refine And.intro ⟨by decide, rfl⟩ ?_
    refine And.intro ⟨by decide, rfl⟩ ?_
    refine And.intro trivial ?_
    obtain ⟨g0, f0, _⟩ := IM.step (m2 := al _ 29 1604) h1 hX (by decide) rfl (fun t n k hn => by rw [gI_al, if_neg hn])
    obtain ⟨g1, f1, _⟩ := IM.step (m2 := al _ 30 1634) g0 hX (by decide) rfl (fun t n k hn => by rw [gI_al, if_neg hn])
    obtain ⟨g2, f2, _⟩ := IM.step (m2 := al _ 31 800) g1 hX (by decide) rfl (fun t n k hn => by rw [gI_al, if_neg hn])
    obtain ⟨g3, f3⟩ := g2.put (v := -1)
    have F := ((f0.tr f1 (Or.inl rfl)).tr f2 (Or.inl rfl)).tr f3 (Or.inl rfl)
    have F1 := (f1.tr f2 (Or.inl rfl)).tr f3 (Or.inl rfl)
    have x1 : nX m1 = 237 := h1.1.1
    have fI : ∀ {n t k : Nat}, n < 237 → n ≠ 231 → gI _ t n k = gI m1 t n k := fun c1 c2 => F.fI (by omega) c2 _ _
    refine st236 _ g3 (fun k hk => ⟨(fI (by decide) (by decide)).trans (a1 k hk).1, (fI (by decide) (by decide)).trans (a1 k hk).2.1, (fI (by decide) (by decide)).trans (a1 k hk).2.2.1, (fI (by decide) (by decide)).trans (a1 k hk).2.2.2⟩) (fun j hj => (fI (by decide) (by decide)).trans (a2 j hj)) (fun k => ?_) (fun k => ?_) ?_
    · refine (F1.fI (n := 237) (by rw [g0.1.1]; decide) (by decide) 29 k).trans ?_
      rw [gI_sPp, gI_al, if_pos x1.symm, if_pos (by decide)]
    · refine (f3.fI (n := 239) (by rw [g2.1.1]; decide) (by decide) 31 k).trans ?_
      rw [gI_sPp, gI_al, if_pos g1.1.1.symm, if_pos (by decide)]
    · rw [gI_s, if_pos ⟨rfl, rfl, rfl⟩]
  have st166 : ∀ m1, IM m m1 4 28 → (∀ k, k < 7 → gI m1 24 232 k = aL24.getD k 0 ∧ gI m1 25 233 k = aL25.getD k 0 ∧ gI m1 26 234 k = aL26.getD k 0 ∧ gI m1 27 235 k = aL27.getD k 0) → smE false 132 166 [some (vR (some (23, 231)))] [] m1 K := by
    intro m1 h1 a1
    refine wp_ok (by decide) OK_132 (cc := cd_132) rfl (stops := [204]) 60 _ _ _ _ ?_
    refine And.intro ⟨by decide, rfl⟩ ?_
    refine And.intro (vpd (by decide)) ?_
    refine And.intro (vpd (by decide)) ?_
    refine And.intro (vpd (by decide)) ?_
    refine And.intro (vpd (by decide)) ?_
    refine And.intro (vpd (by decide)) ?_
    refine And.intro (vpd (by decide)) ?_
    refine And.intro (vpd (by decide)) ?_
    refine And.intro trivial ?_
    show smE false 132 204 [some (vR (some (23, 231)))] [] (sP (sIs (al m1 28 7) 28 (nX m1) 0 aL28) 23 231 5 (some (28, nX m1))) K
    obtain ⟨g, f, _⟩ := IM.step (j := 4) (z := 7) (m2 := sIs (al m1 28 7) 28 (nX m1) 0 aL28) h1 hX (by decide) (sIs_2 _ _ _) (fun t n k hn => by rw [sIs_o hn, gI_al, if_neg hn])
    have x1 : nX m1 = 236 := h1.1.1
    have fI : ∀ {n t k : Nat}, n < 236 → n ≠ 231 → gI (sP (sIs (al m1 28 7) 28 (nX m1) 0 aL28) 23 231 (fkM 4) (some (24 + 4, nX m1))) t n k = gI m1 t n k := fun c1 c2 => f.fI (by omega) c2 _ _
    have at_ : ∀ k, k < 7 → gI (sP (sIs (al m1 28 7) 28 (nX m1) 0 aL28) 23 231 (fkM 4) (some (24 + 4, nX m1))) 28 236 k = aL28.getD k 0 := by
      intro k hk
      have := sIs_at (t := 28) (n := nX m1) aL28 (al m1 28 7) 0 k hk
      rw [Nat.zero_add] at this
      show gI (sIs (al m1 28 7) 28 (nX m1) 0 aL28) 28 236 k = aL28.getD k 0
      rw [← x1]; exact this
    refine st204 _ g (fun k hk => ?_) at_
    have b := aL_ok k hk
    exact ⟨(fI (by decide) (by decide)).trans ((a1 k hk).1.trans b.1), (fI (by decide) (by decide)).trans ((a1 k hk).2.1.trans b.2.1), (fI (by decide) (by decide)).trans ((a1 k hk).2.2.1.trans b.2.2.1), (fI (by decide) (by decide)).trans ((a1 k hk).2.2.2.trans b.2.2.2)⟩
  have st126 : ∀ m1, IM m m1 3 21 → (∀ k, k < 7 → gI m1 24 232 k = aL24.getD k 0 ∧ gI m1 25 233 k = aL25.getD k 0 ∧ gI m1 26 234 k = aL26.getD k 0) → smE false 132 126 [some (vR (some (23, 231)))] [] m1 K := by
    intro m1 h1 a1
    refine wp_ok (by decide) OK_132 (cc := cd_132) rfl (stops := [166]) 60 _ _ _ _ ?_
    refine And.intro ⟨by decide, rfl⟩ ?_
    refine And.intro (vpd (by decide)) ?_
    refine And.intro (vpd (by decide)) ?_
    refine And.intro (vpd (by decide)) ?_
    refine And.intro (vpd (by decide)) ?_
    refine And.intro (vpd (by decide)) ?_
    refine And.intro (vpd (by decide)) ?_
    refine And.intro (vpd (by decide)) ?_
    refine And.intro trivial ?_
    show smE false 132 166 [some (vR (some (23, 231)))] [] (sP (sIs (al m1 27 7) 27 (nX m1) 0 aL27) 23 231 4 (some (27, nX m1))) K
    obtain ⟨g, f, _⟩ := IM.step (j := 3) (z := 7) (m2 := sIs (al m1 27 7) 27 (nX m1) 0 aL27) h1 hX (by decide) (sIs_2 _ _ _) (fun t n k hn => by rw [sIs_o hn, gI_al, if_neg hn])
    have x1 : nX m1 = 235 := h1.1.1
    have fI : ∀ {n t k : Nat}, n < 235 → n ≠ 231 → gI (sP (sIs (al m1 27 7) 27 (nX m1) 0 aL27) 23 231 (fkM 3) (some (24 + 3, nX m1))) t n k = gI m1 t n k := fun c1 c2 => f.fI (by omega) c2 _ _
    have at_ : ∀ k, k < 7 → gI (sP (sIs (al m1 27 7) 27 (nX m1) 0 aL27) 23 231 (fkM 3) (some (24 + 3, nX m1))) 27 235 k = aL27.getD k 0 := by
      intro k hk
      have := sIs_at (t := 27) (n := nX m1) aL27 (al m1 27 7) 0 k hk
      rw [Nat.zero_add] at this
      show gI (sIs (al m1 27 7) 27 (nX m1) 0 aL27) 27 235 k = aL27.getD k 0
      rw [← x1]; exact this
    exact st166 _ g (fun k hk => ⟨(fI (by decide) (by decide)).trans (a1 k hk).1, (fI (by decide) (by decide)).trans (a1 k hk).2.1, (fI (by decide) (by decide)).trans (a1 k hk).2.2, at_ k hk⟩)
  have st84 : ∀ m1, IM m m1 2 14 → (∀ k, k < 7 → gI m1 24 232 k = aL24.getD k 0 ∧ gI m1 25 233 k = aL25.getD k 0) → smE false 132 84 [some (vR (some (23, 231)))] [] m1 K := by
    intro m1 h1 a1
    refine wp_ok (by decide) OK_132 (cc := cd_132) rfl (stops := [126]) 60 _ _ _ _ ?_
    refine And.intro ⟨by decide, rfl⟩ ?_
    refine And.intro (vpd (by decide)) ?_
    refine And.intro (vpd (by decide)) ?_
    refine And.intro (vpd (by decide)) ?_
    refine And.intro (vpd (by decide)) ?_
    refine And.intro (vpd (by decide)) ?_
    refine And.intro (vpd (by decide)) ?_
    refine And.intro (vpd (by decide)) ?_
    refine And.intro trivial ?_
    show smE false 132 126 [some (vR (some (23, 231)))] [] (sP (sIs (al m1 26 7) 26 (nX m1) 0 aL26) 23 231 3 (some (26, nX m1))) K
    obtain ⟨g, f, _⟩ := IM.step (j := 2) (z := 7) (m2 := sIs (al m1 26 7) 26 (nX m1) 0 aL26) h1 hX (by decide) (sIs_2 _ _ _) (fun t n k hn => by rw [sIs_o hn, gI_al, if_neg hn])
    have x1 : nX m1 = 234 := h1.1.1
    have fI : ∀ {n t k : Nat}, n < 234 → n ≠ 231 → gI (sP (sIs (al m1 26 7) 26 (nX m1) 0 aL26) 23 231 (fkM 2) (some (24 + 2, nX m1))) t n k = gI m1 t n k := fun c1 c2 => f.fI (by omega) c2 _ _
    have at_ : ∀ k, k < 7 → gI (sP (sIs (al m1 26 7) 26 (nX m1) 0 aL26) 23 231 (fkM 2) (some (24 + 2, nX m1))) 26 234 k = aL26.getD k 0 := by
      intro k hk
      have := sIs_at (t := 26) (n := nX m1) aL26 (al m1 26 7) 0 k hk
      rw [Nat.zero_add] at this
      show gI (sIs (al m1 26 7) 26 (nX m1) 0 aL26) 26 234 k = aL26.getD k 0
      rw [← x1]; exact this
    exact st126 _ g (fun k hk => ⟨(fI (by decide) (by decide)).trans (a1 k hk).1, (fI (by decide) (by decide)).trans (a1 k hk).2, at_ k hk⟩)
  have st44 : ∀ m1, IM m m1 1 7 → (∀ k, k < 7 → gI m1 24 232 k = aL24.getD k 0) → smE false 132 44 [some (vR (some (23, 231)))] [] m1 K := by
    intro m1 h1 a1
    refine wp_ok (by decide) OK_132 (cc := cd_132) rfl (stops := [84]) 60 _ _ _ _ ?_
    refine And.intro ⟨by decide, rfl⟩ ?_
    refine And.intro (vpd (by decide)) ?_
    refine And.intro (vpd (by decide)) ?_
    refine And.intro (vpd (by decide)) ?_
    refine And.intro (vpd (by decide)) ?_
    refine And.intro (vpd (by decide)) ?_
    refine And.intro (vpd (by decide)) ?_
    refine And.intro (vpd (by decide)) ?_
    refine And.intro trivial ?_
    show smE false 132 84 [some (vR (some (23, 231)))] [] (sP (sIs (al m1 25 7) 25 (nX m1) 0 aL25) 23 231 2 (some (25, nX m1))) K
    obtain ⟨g, f, _⟩ := IM.step (j := 1) (z := 7) (m2 := sIs (al m1 25 7) 25 (nX m1) 0 aL25) h1 hX (by decide) (sIs_2 _ _ _) (fun t n k hn => by rw [sIs_o hn, gI_al, if_neg hn])
    have x1 : nX m1 = 233 := h1.1.1
    have fI : ∀ {n t k : Nat}, n < 233 → n ≠ 231 → gI (sP (sIs (al m1 25 7) 25 (nX m1) 0 aL25) 23 231 (fkM 1) (some (24 + 1, nX m1))) t n k = gI m1 t n k := fun c1 c2 => f.fI (by omega) c2 _ _
    have at_ : ∀ k, k < 7 → gI (sP (sIs (al m1 25 7) 25 (nX m1) 0 aL25) 23 231 (fkM 1) (some (24 + 1, nX m1))) 25 233 k = aL25.getD k 0 := by
      intro k hk
      have := sIs_at (t := 25) (n := nX m1) aL25 (al m1 25 7) 0 k hk
      rw [Nat.zero_add] at this
      show gI (sIs (al m1 25 7) 25 (nX m1) 0 aL25) 25 233 k = aL25.getD k 0
      rw [← x1]; exact this
    exact st84 _ g (fun k hk => ⟨(fI (by decide) (by decide)).trans (a1 k hk), at_ k hk⟩)
  have h1 : IM m m 0 0 := ⟨⟨hX, Nat.le_refl _⟩, KX.rf _ _, hr, fun i hi => absurd hi (Nat.not_lt_zero _), fun k _ => h0 k⟩
  refine smC_wp [some (vR (some (23, 231)))] cd_132 [44] 60 OK_132 (by decide) rfl rfl (Nat.le_of_ble_eq_true rfl) ?_
  refine And.intro ⟨by decide, rfl⟩ ?_
  refine And.intro (vpd (by decide)) ?_
  refine And.intro (vpd (by decide)) ?_
  refine And.intro (vpd (by decide)) ?_
  refine And.intro (vpd (by decide)) ?_
  refine And.intro (vpd (by decide)) ?_
  refine And.intro (vpd (by decide)) ?_
  refine And.intro (vpd (by decide)) ?_
  refine And.intro trivial ?_
  show smE false 132 44 [some (vR (some (23, 231)))] [] (sP (sIs (al m 24 7) 24 (nX m) 0 aL24) 23 231 1 (some (24, nX m))) K
  obtain ⟨g, f, _⟩ := IM.step (j := 0) (z := 7) (m2 := sIs (al m 24 7) 24 (nX m) 0 aL24) h1 hX (by decide) (sIs_2 _ _ _) (fun t n k hn => by rw [sIs_o hn, gI_al, if_neg hn])
  refine st44 _ g (fun k hk => ?_)
  have := sIs_at (t := 24) (n := nX m) aL24 (al m 24 7) 0 k hk
  rw [Nat.zero_add] at this
  show gI (sIs (al m 24 7) 24 (nX m) 0 aL24) 24 232 k = aL24.getD k 0
  rw [← hX]; exact this
end CTOR4
