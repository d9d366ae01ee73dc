/-! THE CLASS's constructor -/
/-- what stands behind it -/
def CB0 (m : Mem) : Prop := (nX m = 231 ∧ nS m ≤ 10000 ∧ ∀ n, n < 231 → FQ m n) ∧ (gP m 0 0 2 = some (10, 27) ∧ gP m 0 0 3 = some (10, 128)) ∧ ((∀ k, gI m 2 2 k = 0) ∧ gI m 1 1 1 = 0) ∧ (gI m 0 0 5 = 0 ∧ gI m 0 0 6 = -1) ∧ ((∀ k, k < 7 → gI m 5 5 k = iZ (tm0 k)) ∧ gI m 4 4 3 = 0) ∧ (gI m 10 27 1 = 0 ∧ gI m 10 27 3 = 0 ∧ gI m 10 27 4 = 0) ∧
  (gI m 6 6 0 = 1 ∧ gI m 6 6 1 = 0 ∧ gI m 6 6 6 = 0 ∧ gI m 6 6 7 = 0 ∧ gI m 6 6 10 = 0 ∧ gI m 6 6 11 = 0) ∧ (gP m 6 6 2 = some (20, 12) ∧ gP m 6 6 3 = some (20, 13) ∧ gP m 6 6 4 = some (20, 14) ∧ gP m 6 6 5 = some (20, 15)) ∧ (gL m 20 12 = 146 ∧ gL m 20 13 = 146 ∧ gL m 20 14 = 146 ∧ gL m 20 15 = 146) ∧ gI m 6 16 0 = 0
section CTOR3
variable {m : Mem} {K : Option SV → Mem → Prop}
theorem c_OOI (hX : nX m = 1) (hr : rgn m 0 = 0) (hS : nS m ≤ 100) (hk : ∀ m', CB0 m' → K none m') : smC false 88 [vR (some (0, 0))] m K := by
  -- behind the reader
  have at15 : ∀ m1, nX m1 = 4 → nS m1 ≤ 1000 → rgn m1 0 = 0 → (∀ n, 1 ≤ n → n < 4 → FQ m1 n) → gI m1 1 1 1 = 0 → (∀ k, gI m1 2 2 k = 0) → gP m1 0 0 0 = some (1, 1) → smE false 88 15 [some (vR (some (0, 0)))] [] m1 K := by
    intro m1 x1 y1 r1 q1 i1 t1 p1
    -- behind the writer
    have at26 : ∀ m2, nX m2 = 27 → nS m2 ≤ 4000 → KX m1 m2 0 → rgn m2 0 = 0 → (∀ n, 4 ≤ n → n < 27 → FQ m2 n) → (gP m2 0 0 0 = some (1, 1) ∧ gP m2 0 0 1 = some (4, 4)) → (∀ k, k < 7 → gI m2 5 5 k = iZ (tm0 k)) → gI m2 4 4 3 = 0 →
        (gI m2 6 6 0 = 1 ∧ gI m2 6 6 1 = 0 ∧ gI m2 6 6 6 = 0 ∧ gI m2 6 6 7 = 0 ∧ gI m2 6 6 10 = 0 ∧ gI m2 6 6 11 = 0) → (gP m2 6 6 2 = some (20, 12) ∧ gP m2 6 6 3 = some (20, 13) ∧ gP m2 6 6 4 = some (20, 14) ∧ gP m2 6 6 5 = some (20, 15)) → (gL m2 20 12 = 146 ∧ gL m2 20 13 = 146 ∧ gL m2 20 14 = 146 ∧ gL m2 20 15 = 146) → gI m2 6 16 0 = 0 →
        smE false 88 26 [some (vR (some (0, 0)))] [] m2 K := by
      intro m2 x2 y2 F12 r2 q2 p2 it i43 i6 p6 l6 i16
      -- behind the song
      have at37 : ∀ m3, nX m3 = 128 → nS m3 ≤ 5200 → KX m2 m3 0 → rgn m3 0 = 0 → (∀ n, 27 ≤ n → n < 128 → FQ m3 n) → (gP m3 0 0 0 = some (1, 1) ∧ gP m3 0 0 1 = some (4, 4) ∧ gP m3 0 0 2 = some (10, 27)) → (gI m3 10 27 1 = 0 ∧ gI m3 10 27 3 = 0 ∧ gI m3 10 27 4 = 0) → smE false 88 37 [some (vR (some (0, 0)))] [] m3 K := by
        intro m3 x3 y3 F23 r3 q3 p3 i3
        -- behind the spare one
        have at48 : ∀ m4, nX m4 = 229 → nS m4 ≤ 6400 → KX m3 m4 0 → rgn m4 0 = 0 → (∀ n, 128 ≤ n → n < 229 → FQ m4 n) → (gP m4 0 0 0 = some (1, 1) ∧ gP m4 0 0 1 = some (4, 4) ∧ gP m4 0 0 2 = some (10, 27) ∧ gP m4 0 0 3 = some (10, 128)) → smE false 88 48 [some (vR (some (0, 0)))] [] m4 K := by
          intro m4 x4 y4 F34 r4 q4 p4
          refine wp_ok (by decide) OK_88 (cc := cd_88) rfl (stops := []) 40 _ _ _ _ ?_
          show True ∧ smC false 0 [vR (some (8, nX m4))] (al m4 8 16) _
          rw [x4]
          refine And.intro trivial (c_NoteI (c := 229) (by rw [nX_al, x4]) (by rw [rgn_al, x4, if_pos rfl]) (fun m5 x5 y5 F45 r5 qa qb => ?_))
          refine And.intro trivial ?_
          have y5' : nS m5 = nS m4 + 16 + 4 := y5
          have G45 : KX m4 m5 229 := (KX.al (c := 229)).tr F45 (Or.inl rfl)
          have H45 : KX m4 m5 0 := (KX.al (c := 0)).tr F45 (Or.inr (by omega))
          have F56 : KX m5 (sI (sI (sP m5 0 0 4 (some (8, 229))) 0 0 5 0) 0 0 6 (-1)) 0 := (KX.sP.tr KX.sI (Or.inl rfl)).tr KX.sI (Or.inl rfl)
          have F46 : KX m4 (sI (sI (sP m5 0 0 4 (some (8, 229))) 0 0 5 0) 0 0 6 (-1)) 0 := H45.tr F56 (Or.inl rfl)
          have F36 := F34.tr F46 (Or.inl rfl)
          have F26 := F23.tr F36 (Or.inl rfl)
          have F16 := F12.tr F26 (Or.inl rfl)
          have rF : rgn (sI (sI (sP m5 0 0 4 (some (8, 229))) 0 0 5 0) 0 0 6 (-1)) 0 = 0 := (G45.fR (n := 0) (by omega) (by decide)).trans r4
          have pk : ∀ k, k ≠ 4 → gP (sI (sI (sP m5 0 0 4 (some (8, 229))) 0 0 5 0) 0 0 6 (-1)) 0 0 k = gP m4 0 0 k := fun k hk => by
            rw [gP_sI, gP_sI, gP_s, if_neg (by omega)]; exact G45.fP (by omega) (by decide) _ _
          have p44 : gP (sI (sI (sP m5 0 0 4 (some (8, 229))) 0 0 5 0) 0 0 6 (-1)) 0 0 4 = some (8, 229) := by rw [gP_sI, gP_sI, gP_s, if_pos ⟨rfl, rfl, rfl⟩]
          have e5 : gI (sI (sI (sP m5 0 0 4 (some (8, 229))) 0 0 5 0) 0 0 6 (-1)) 0 0 5 = 0 := by rw [gI_s, if_neg (by decide), gI_s, if_pos ⟨rfl, rfl, rfl⟩]
          have e6 : gI (sI (sI (sP m5 0 0 4 (some (8, 229))) 0 0 5 0) 0 0 6 (-1)) 0 0 6 = -1 := by rw [gI_s, if_pos ⟨rfl, rfl, rfl⟩]
          have x6 : nX (sI (sI (sP m5 0 0 4 (some (8, 229))) 0 0 5 0) 0 0 6 (-1)) = 231 := x5
          have y6 : nS (sI (sI (sP m5 0 0 4 (some (8, 229))) 0 0 5 0) 0 0 6 (-1)) ≤ 10000 := by show nS m5 ≤ 10000; omega
          show K none (sI (sI (sP m5 0 0 4 (some (8, 229))) 0 0 5 0) 0 0 6 (-1))
          generalize sI (sI (sP m5 0 0 4 (some (8, 229))) 0 0 5 0) 0 0 6 (-1) = m6 at *
          have f1 : ∀ {n t k : Nat}, 0 < n → n < 4 → gI m6 t n k = gI m1 t n k := fun h1 h2 => F16.fI (by omega) (by omega) _ _
          have f2 : ∀ {n t k : Nat}, 0 < n → n < 27 → gI m6 t n k = gI m2 t n k := fun h1 h2 => F26.fI (by omega) (by omega) _ _
          have f2p : ∀ {n t k : Nat}, 0 < n → n < 27 → gP m6 t n k = gP m2 t n k := fun h1 h2 => F26.fP (by omega) (by omega) _ _
          have f2l : ∀ {n t : Nat}, 0 < n → n < 27 → gL m6 t n = gL m2 t n := fun h1 h2 => F26.fL (by omega) (by omega) _
          have f3 : ∀ {n t k : Nat}, 0 < n → n < 128 → gI m6 t n k = gI m3 t n k := fun h1 h2 => F36.fI (by omega) (by omega) _ _
          refine hk m6 ⟨⟨x6, y6, fun n hn => ?_⟩, ⟨(pk 2 (by decide)).trans p4.2.2.1, (pk 3 (by decide)).trans p4.2.2.2⟩, ⟨fun k => (f1 (by decide) (by decide)).trans (t1 k), (f1 (by decide) (by decide)).trans i1⟩, ⟨e5, e6⟩, ⟨fun k hk => (f2 (by decide) (by decide)).trans (it k hk), (f2 (by decide) (by decide)).trans i43⟩, ⟨(f3 (by decide) (by decide)).trans i3.1, (f3 (by decide) (by decide)).trans i3.2.1, (f3 (by decide) (by decide)).trans i3.2.2⟩, ⟨(f2 (by decide) (by decide)).trans i6.1, (f2 (by decide) (by decide)).trans i6.2.1, (f2 (by decide) (by decide)).trans i6.2.2.1, (f2 (by decide) (by decide)).trans i6.2.2.2.1, (f2 (by decide) (by decide)).trans i6.2.2.2.2.1, (f2 (by decide) (by decide)).trans i6.2.2.2.2.2⟩, ⟨(f2p (by decide) (by decide)).trans p6.1, (f2p (by decide) (by decide)).trans p6.2.1, (f2p (by decide) (by decide)).trans p6.2.2.1, (f2p (by decide) (by decide)).trans p6.2.2.2⟩, ⟨(f2l (by decide) (by decide)).trans l6.1, (f2l (by decide) (by decide)).trans l6.2.1, (f2l (by decide) (by decide)).trans l6.2.2.1, (f2l (by decide) (by decide)).trans l6.2.2.2⟩, (f2 (by decide) (by decide)).trans i16⟩
          have hc : n = 0 ∨ (1 ≤ n ∧ n < 4) ∨ (4 ≤ n ∧ n < 27) ∨ (27 ≤ n ∧ n < 128) ∨ (128 ≤ n ∧ n < 229) ∨ n = 229 ∨ n = 230 := by omega
          rcases hc with e | e | e | e | e | e | e
          · subst e
            intro k a h1 _
            rw [rF] at h1 ⊢
            unfold FR at h1
            simp only at h1
            split at h1
            · injection h1 with h1; rw [← h1, pk 0 (by decide)]; exact p4.1
            · injection h1 with h1; rw [← h1, pk 1 (by decide)]; exact p4.2.1
            · injection h1 with h1; rw [← h1]; exact p44
            · cases h1
          · exact (q1 n e.1 e.2).kx F16 (by omega) (by omega)
          · exact (q2 n e.1 e.2).kx F26 (by omega) (by omega)
          · exact (q3 n e.1 e.2).kx F36 (by omega) (by omega)
          · exact (q4 n e.1 e.2).kx F46 (by omega) (by omega)
          · subst e; exact qa.kx F56 (by omega) (by decide)
          · subst e; exact qb.kx F56 (by omega) (by decide)
        refine wp_ok (by decide) OK_88 (cc := cd_88) rfl (stops := [48]) 40 _ _ _ _ ?_
        show True ∧ smC false 51 [vR (some (10, nX m3))] (al m3 10 5) _
        rw [x3]
        refine And.intro trivial (c_SongI (N := 128) (by rw [nX_al, x3]) (by rw [rgn_al, x3, if_pos rfl]) (fun m4 x4 y4 F4 q4 i4 r4 => ?_))
        refine And.intro trivial ?_
        have y4' : nS m4 = nS m3 + 5 + 1149 := y4
        have G : KX m3 m4 128 := (KX.al (c := 128)).tr F4 (Or.inl rfl)
        have H : KX m3 m4 0 := (KX.al (c := 0)).tr F4 (Or.inr (by omega))
        have J : KX m4 (sP m4 0 0 3 (some (10, 128))) 0 := KX.sP
        refine at48 _ x4 (by show nS m4 ≤ _; omega) (H.tr J (Or.inl rfl)) ((G.fR (n := 0) (by omega) (by decide)).trans r3) (fun n h1 h2 => (q4 n h1 h2).kx J (by omega) (by omega)) ⟨?_, ?_, ?_, ?_⟩
        · rw [gP_s, if_neg (by decide), G.fP (by omega) (by decide)]; exact p3.1
        · rw [gP_s, if_neg (by decide), G.fP (by omega) (by decide)]; exact p3.2.1
        · rw [gP_s, if_neg (by decide), G.fP (by omega) (by decide)]; exact p3.2.2
        · rw [gP_s, if_pos ⟨rfl, rfl, rfl⟩]
      refine wp_ok (by decide) OK_88 (cc := cd_88) rfl (stops := [37]) 40 _ _ _ _ ?_
      show True ∧ smC false 51 [vR (some (10, nX m2))] (al m2 10 5) _
      rw [x2]
      refine And.intro trivial (c_SongI (N := 27) (by rw [nX_al, x2]) (by rw [rgn_al, x2, if_pos rfl]) (fun m3 x3 y3 F3 q3 i3 r3 => ?_))
      refine And.intro trivial ?_
      have y3' : nS m3 = nS m2 + 5 + 1149 := y3
      have G : KX m2 m3 27 := (KX.al (c := 27)).tr F3 (Or.inl rfl)
      have H : KX m2 m3 0 := (KX.al (c := 0)).tr F3 (Or.inr (by omega))
      have J : KX m3 (sP m3 0 0 2 (some (10, 27))) 0 := KX.sP
      refine at37 _ x3 (by show nS m3 ≤ _; omega) (H.tr J (Or.inl rfl)) ((G.fR (n := 0) (by omega) (by decide)).trans r2) (fun n h1 h2 => (q3 n h1 h2).kx J (by omega) (by omega)) ⟨?_, ?_, ?_⟩ ⟨?_, ?_, ?_⟩
      · rw [gP_s, if_neg (by decide), G.fP (by omega) (by decide)]; exact p2.1
      · rw [gP_s, if_neg (by decide), G.fP (by omega) (by decide)]; exact p2.2
      · rw [gP_s, if_pos ⟨rfl, rfl, rfl⟩]
      · exact i3.1
      · exact i3.2.1
      · exact i3.2.2
    refine wp_ok (by decide) OK_88 (cc := cd_88) rfl (stops := [26]) 40 _ _ _ _ ?_
    show True ∧ smC false 60 [vR (some (4, nX m1))] (al m1 4 14) _
    rw [x1]
    refine And.intro trivial (c_WriterI (by rw [nX_al, x1]) (by rw [rgn_al, x1, if_pos rfl]) (fun m2 x2 y2 F2 q2 it i43 i6 p6 l6 i16 => ?_))
    refine And.intro trivial ?_
    have y2' : nS m2 ≤ nS m1 + 14 + 2100 := y2
    have G : KX m1 m2 4 := (KX.al (c := 4)).tr F2 (Or.inl rfl)
    have H : KX m1 m2 0 := (KX.al (c := 0)).tr F2 (Or.inr (by omega))
    have J : KX m2 (sP m2 0 0 1 (some (4, 4))) 0 := KX.sP
    refine at26 _ x2 (by show nS m2 ≤ _; omega) (H.tr J (Or.inl rfl)) ((G.fR (n := 0) (by omega) (by decide)).trans r1) (fun n h1 h2 => (q2 n h1 h2).kx J (by omega) (by omega)) ⟨?_, ?_⟩ it i43 i6 ?_ l6 i16
    · rw [gP_s, if_neg (by decide), G.fP (by omega) (by decide)]; exact p1
    · rw [gP_s, if_pos ⟨rfl, rfl, rfl⟩]
    · refine ⟨?_, ?_, ?_, ?_⟩
      · rw [J.fP (by omega) (by decide)]; exact p6.1
      · rw [J.fP (by omega) (by decide)]; exact p6.2.1
      · rw [J.fP (by omega) (by decide)]; exact p6.2.2.1
      · rw [J.fP (by omega) (by decide)]; exact p6.2.2.2
  refine smC_wp [some (vR (some (0, 0)))] cd_88 [15] 40 OK_88 (by decide) rfl rfl (Nat.le_of_ble_eq_true rfl) ?_
  show True ∧ smC false 8 [vR (some (1, nX m))] (al m 1 18) _
  rw [hX]
  refine And.intro trivial (c_ReaderI (by rw [nX_al, hX]) (by rw [rgn_al, hX, if_pos rfl]) (fun m1 x1 y1 F1 q1 i1 t1 => ?_))
  refine And.intro trivial ?_
  have y1' : nS m1 = nS m + 18 + 863 := y1
  have G : KX m m1 1 := (KX.al (c := 1)).tr F1 (Or.inl rfl)
  have J : KX m1 (sP m1 0 0 0 (some (1, 1))) 0 := KX.sP
  refine at15 _ x1 (by show nS m1 ≤ _; omega) ((G.fR (n := 0) (by omega) (by decide)).trans hr) (fun n h1 h2 => (q1 n h1 h2).kx J (by omega) (by omega)) i1 t1 ?_
  rw [gP_s, if_pos ⟨rfl, rfl, rfl⟩]
end CTOR3
