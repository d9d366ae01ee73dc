/-! THE START of the law in the simple machine -/
theorem smE_md {i pc : Nat} {sl : List (Option SV)} {st : List SV} {m : Mem} {Q : Option SV → Mem → Prop} (hF : FRok m) (h : smE true i pc sl st m Q) : smE false i pc sl st m Q := by
  intro h1 h2 h3 _
  obtain ⟨v, M', q, x, o, k, _, g⟩ := h h1 h2 h3 (fun _ => hF)
  exact ⟨v, M', q, x, o, k, (fun z => by cases z), g⟩
def D00 : Dt := (0, fun _ _ => 0, 0, fun _ => 0, 0)
theorem D00_ok : SOK D00 0 800 := ⟨by show (0 : Nat) ≤ 48; decide, fun i hi => absurd hi (by show ¬ i < 0; omega), ⟨fun z => absurd z (by show ¬ (0 : Nat) < 0; decide), fun i hi => absurd hi (by show ¬ i + 1 < 0; omega), fun i hi => absurd hi (by show ¬ i + 1 = 0; omega), fun _ => rfl⟩, ⟨by show (0 : Int) ≤ 0; decide, by show (0 : Int) ≤ 0; decide, by show (0 : Int) ≤ 8192 * ((0 : Nat) : Int); decide⟩, by show 7 * 0 ≤ 800; decide, fun _ => rfl, ⟨fun z => absurd z (by show ¬ (0 : Nat) < 0; decide), fun k hk => absurd hk (by show ¬ k + 1 < 0; omega), fun k hk => absurd hk (by show ¬ k < 0; omega), fun _ => rfl⟩, fun z => absurd z (by show ¬ (0 : Nat) < 0; decide)⟩
theorem tm0_ok : tmOK tm0 := by unfold tmOK tm0; decide
theorem law_first {m1 m2 : Mem} (hB : CB0 m1) (hx : nX m2 = 256) (hs : nS m2 ≤ 60000) (F : KX m1 m2 231) (hM : MB0 m2) : LSt m2 0 := by
  obtain ⟨⟨x1, _, _⟩, ⟨p2, p3⟩, ⟨it, i11⟩, ⟨f5, f6⟩, ⟨t5, i43⟩, ⟨s1, s3, s4⟩, ⟨a0, a1, a6, a7, a10, a11⟩, ⟨r2, r3, r4, r5⟩, ⟨l12, l13, l14, l15⟩, i16⟩ := hB
  obtain ⟨mk, m28, mW, m29, m31, m23, m13⟩ := hM
  have g : ∀ {t n k : Nat}, n < 231 → gI m2 t n k = gI m1 t n k := fun {t n k} hn => ((F.2 n (by omega) (by omega)).2 t k).1
  have gp : ∀ {t n k : Nat}, n < 231 → gP m2 t n k = gP m1 t n k := fun {t n k} hn => ((F.2 n (by omega) (by omega)).2 t k).2.1
  have gl : ∀ {t n : Nat}, n < 231 → gL m2 t n = gL m1 t n := fun {t n} hn => ((F.2 n (by omega) (by omega)).2 t 0).2.2
  have rw4 : RowsOK m2 6 12 13 14 15 146 := ⟨⟨(gp (by decide)).trans r2, (gp (by decide)).trans r3, (gp (by decide)).trans r4, (gp (by decide)).trans r5⟩, ⟨(gl (by decide)).trans l12, (gl (by decide)).trans l13, (gl (by decide)).trans l14, (gl (by decide)).trans l15⟩, by decide, by decide⟩
  have hS : SI (fun _ => 0) 0 tm0 D00 := ⟨fun k _ => ⟨Int.le_refl 0, by show (0 : Int) ≤ 255; decide⟩, by decide, tm0_ok, 0, D00_ok⟩
  have hP : PW m2 6 27 true tm0 D00 0 := by
    refine ⟨⟨tm0_ok, hS.dok⟩, ⟨by omega, by omega, by omega⟩, fun k hk => (g (by decide)).trans (t5 k hk), ⟨⟨(g (by decide)).trans s1, (g (by decide)).trans s3, (g (by decide)).trans s4⟩, fun i hi => absurd hi (by show ¬ i < 0; omega), fun k hk => absurd hk (by show ¬ k < 0; omega)⟩, (g (by decide)).trans a0, fun _ => ⟨12, 13, 14, 15, rw4, ⟨by omega, by omega, by omega, by omega⟩, by decide⟩⟩
  have hW : WOK (wr tm0 (tm0 5) D00 0) := by
    refine ⟨fun z => ?_, fun t ht => ?_⟩
    · exact absurd z (by show ¬ false = true; decide)
    · exact absurd ht (by show ¬ t ∈ ([] : List Tn); exact List.not_mem_nil)
  have hH : ∀ t, (wr tm0 (tm0 5) D00 0).1.head? = some t → gI m2 6 6 8 = iZ (pit t.2.1 t.2.2.1) ∧ gI m2 6 6 9 = iZ t.2.2.2.2.2 := by
    intro t ht
    have ht : (none : Option Tn) = some t := ht
    cases ht
  have hR : ScR m2 6 true tm0 (tm0 5) D00 0 := by
    refine ⟨⟨146, ⟨⟨(g (by decide)).trans a0, (g (by decide)).trans a1, (g (by decide)).trans a6, fun _ => ⟨12, 13, 14, 15, 146, rw4, Nat.le_refl _, trivial⟩, Nat.zero_le _, by decide⟩, (g (by decide)).trans a7, hH⟩⟩, hW, fun i hi => absurd hi (by omega), (g (by decide)).trans a10, (g (by decide)).trans a11⟩
  have hC : CJ m2 (fun _ => 0) 0 (0, -1) tm0 D00 0 27 128 0 false := by
    refine ⟨⟨Or.inl ⟨rfl, rfl⟩, (gp (by decide)).trans p2, (gp (by decide)).trans p3⟩, ⟨by omega, by omega, by omega⟩, ⟨fun k _ => (g (by decide)).trans (it k), (g (by decide)).trans i11⟩, ⟨(g (by decide)).trans f5, (g (by decide)).trans f6⟩, hP, (g (by decide)).trans i16, (g (by decide)).trans i43, fun _ => hR⟩
  have hI : MI m2 (fun _ => 0) 0 (0, -1) tm0 D00 := by
    refine ⟨⟨⟨fun k hk => (mk k hk).2.2.2, m28⟩, mW, fun k hk => ⟨(mk k hk).2.1, (mk k hk).2.2.1⟩⟩, fun k hk => (mk k hk).1, ⟨⟨m29 0, m29 1, m29 2⟩, fun i w hi _ => absurd hi (by show ¬ i < 0; omega), fun k hk => absurd hk (by show ¬ k < 0; omega)⟩, ⟨fun k _ => m31 k, m23 9 (by decide)⟩, m23 12 (by decide), m13⟩
  exact ⟨fun _ => 0, 0, (0, -1), tm0, D00, hS, ⟨27, 128, 0, false, hC⟩, hI⟩
theorem LSt.room {m : Mem} {c : Nat} (h : LSt m c) (hc : c ≤ 512) : nX m ≤ 40000 ∧ nS m ≤ 600000 := by
  obtain ⟨tp, td, fl, tm, D, _, ⟨sa, sb, j, st, hC⟩, _⟩ := h
  obtain ⟨_, ⟨_, x2, x3⟩, _, _, hP, _⟩ := hC
  obtain ⟨_, _, _, _, _, hj⟩ := hP.2.2.2.2.2 rfl
  have := hj.2
  exact ⟨by omega, by omega⟩
theorem law_start {m : Mem} {L : Nat} (hL : L ≤ 3072) (hx : nX m = 0) (hs : nS m = 0) (hl : gL m 63 0 = L) :
    smE false 244 0 [some (vR (some (63, 0))), none, none, none] [] m (fun v m' => v = some (vI 1) ∧ nX m' ≤ 40000 ∧ nS m' ≤ 600000) := by
  refine wp_ok (by decide) OK_244 (cc := cd_244) rfl (stops := [18]) 60 _ _ _ _ ?_
  show True ∧ smC false 88 [vR (some (0, nX m))] (al m 0 7) _
  rw [hx]
  refine And.intro trivial (smC_ext (c_OOI (by rw [nX_al, hx]) (by rw [rgn_al, hx, if_pos rfl]) (by rw [nS_al, hs]; decide) (fun m1 hB E1 => ?_)))
  have x1 := hB.1.1
  have y1 := hB.1.2.1
  have l1 : gL m1 63 0 = L := E1.2.2.2.1.trans ((Ext_al (m := m)).2.2.2.1.trans hl)
  show True ∧ smC false 132 [vR (some (23, nX m1))] (al m1 23 56) _
  rw [x1]
  refine And.intro trivial (smC_ext (M_init (by rw [nX_al, x1]) (by rw [rgn_al, x1, if_pos rfl]) (fun k => by have := gI_new0 m1 23 56 23 k (by decide); rw [x1] at this; exact this) (fun m2 x2 y2 F2 q2 hM E2 => ?_)))
  have l2 : gL m2 63 0 = L := E2.2.2.2.1.trans ((Ext_al (m := m1)).2.2.2.1.trans l1)
  have y2 : nS m2 ≤ nS m1 + 56 + 40000 := y2
  have F : KX m1 m2 231 := (KX.al (c := 231)).tr F2 (Or.inl rfl)
  have hF : FRok m2 := by
    intro n k a hn
    by_cases e : n < 231
    · exact (hB.1.2.2 n e).kx F (by omega) (by omega) k a
    · exact q2 n (by omega) (by omega) k a
  refine And.intro trivial ?_
  exact smE_md hF (law_loop hL (fun m' c h hc => ⟨rfl, h.room hc⟩) 512 0 rfl m2 (law_first hB x2 (by omega) F hM) l2)
