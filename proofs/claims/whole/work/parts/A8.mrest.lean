/-! THE MODEL's reader: a rest's line -/
def rowN (N : Nat) : Nat := if N = 48 then 1604 else 4 + 30 * N
theorem rowN_rng {N : Nat} (h : N ≤ 48) : rowN N + 30 ≤ 1634 ∧ 4 ≤ rowN N ∧ (rowN N = 4 + 30 * N ∧ rowN N + 30 ≤ 1444 ∨ 1604 ≤ rowN N) := by
  unfold rowN; split <;> omega
section MREST
variable {m : Mem} {K : Option SV → Mem → Prop} {tp : Nat → Int} {n ls q : Nat} {p : PS}
theorem MPC.fr {A : Nat → Nat → Nat → Prop} {m' : Mem} (h : MPC m p) (F : Fr A m m') (hA : ∀ t n k, t = 27 ∨ t = 28 ∨ t = 32 ∨ t = 33 → ¬ A t n k) (h23 : ∀ k, 19 ≤ k ∧ k ≤ 23 → ¬ A 23 231 k) (h30 : ∀ k, k = 0 ∨ k = 1 ∨ (4 ≤ k ∧ k < 4 + 30 * p.2.2.2.1) ∨ (1444 ≤ k ∧ k < 1444 + p.2.2.2.2.2.1) → ¬ A 30 238 k) : MPC m' p := by
  obtain ⟨hB, ⟨c23, c21, c20, c19⟩, hto, ⟨d0, d1⟩, dr, db⟩ := h
  refine ⟨hB.fr F (fun t n k z => hA t n k (by omega)) (h23 22 (by omega)), ⟨(F.2 _ _ _ (h23 23 (by omega))).trans c23, (F.2 _ _ _ (h23 21 (by omega))).trans c21, (F.2 _ _ _ (h23 20 (by omega))).trans c20, (F.2 _ _ _ (h23 19 (by omega))).trans c19⟩, fun z s hs => (F.2 _ _ _ (hA _ _ _ (by omega))).trans (hto z s hs), ⟨⟨(F.2 _ _ _ (h30 0 (by omega))).trans d0, (F.2 _ _ _ (h30 1 (by omega))).trans d1⟩, fun i w hi hw => (F.2 _ _ _ (h30 _ (by omega))).trans (dr i w hi hw), fun k hk => (F.2 _ _ _ (h30 _ (by omega))).trans (db k hk)⟩⟩
/-- what a line's reading may touch -/
def AML : Nat → Nat → Nat → Prop := fun t n k => (t = 23 ∧ n = 231 ∧ 11 ≤ k ∧ k ≤ 30) ∨ (t = 30 ∧ n = 238) ∨ (t = 33 ∧ n = 241)
theorem AWr_AML {t n k : Nat} (h : AWr t n k) : AML t n k := Or.inl ⟨h.1, h.2.1, by have := h.2.2; omega⟩
/-- a row becomes a note of the song -/
theorem MRD_add {m' : Mem} {D : Dt} {f : NF} {l : Int} (h : MRD m D) (hN : D.1 < 48) (hb : D.2.2.1 ≤ 115) (e0 : gI m' 30 238 0 = iZ ((D.1 : Int) + 1)) (hr : ∀ w, w < 30 → gI m' 30 238 (4 + 30 * D.1 + w) = iZ (mw w (f w))) (F : ∀ k, k = 1 ∨ (4 ≤ k ∧ k < 4 + 30 * D.1) ∨ (1444 ≤ k ∧ k < 1604) → gI m' 30 238 k = gI m 30 238 k) : MRD m' (addN D f l) := by
  obtain ⟨⟨d0, d1⟩, dr, db⟩ := h
  refine ⟨⟨e0, (F 1 (by omega)).trans d1⟩, fun i w hi hw => ?_, fun k hk => ?_⟩
  · have hi : i < D.1 + 1 := hi
    show gI m' 30 238 (4 + 30 * i + w) = iZ (mw w (upq D.2.1 D.1 f i w))
    by_cases e : i = D.1
    · subst e; rw [upq_s]; exact hr w hw
    · have : upq D.2.1 D.1 f i = D.2.1 i := by unfold upq; rw [if_neg e]
      rw [this, F _ (by omega)]; exact dr i w (by omega) hw
  · have hk : k < D.2.2.1 := hk
    rw [F _ (by omega)]; exact db k hk
theorem rest_row {en l b k s : Int} : ∀ w, w < 30 → lasG (fun _ => 0) en l b k s w = iZ (mw w (mkF [0, 0, 0, 0, en, l, b, 0, k, s, 0, 0, 0, 0, 0, 0, 0, 0] g0 w)) := by
  intro w hw
  have hc : w = 0 ∨ w = 1 ∨ w = 2 ∨ w = 3 ∨ w = 4 ∨ w = 5 ∨ w = 6 ∨ w = 7 ∨ w = 8 ∨ w = 9 ∨ w = 10 ∨ w = 11 ∨ w = 12 ∨ w = 13 ∨ w = 14 ∨ w = 15 ∨ w = 16 ∨ w = 17 ∨ w = 18 ∨ w = 19 ∨ w = 20 ∨ w = 21 ∨ w = 22 ∨ w = 23 ∨ w = 24 ∨ w = 25 ∨ w = 26 ∨ w = 27 ∨ w = 28 ∨ w = 29 := by omega
  rcases hc with rfl | rfl | rfl | rfl | rfl | rfl | rfl | rfl | rfl | rfl | rfl | rfl | rfl | rfl | rfl | rfl | rfl | rfl | rfl | rfl | rfl | rfl | rfl | rfl | rfl | rfl | rfl | rfl | rfl | rfl <;> rfl
theorem M_restLine (hT : TPOK tp) (hn : n ≤ 800) (hq : q + 3 ≤ p.1.2.1) (hP : POK tp n p q) (h0 : MOk m) (hR : MRS m tp n p.1) (hC : MPC m p) (e26 : gI m 23 231 26 = iZ ls)
    (hF : ∀ m' e, pRest tp n ls p = .inl e → MFt m' e → Fr AML m m' → K none m') (hS : ∀ m' p', pRest tp n ls p = .inr p' → MRS m' tp n p'.1 → MOk m' → MPC m' p' → gI m' 23 231 24 = 0 → Fr AML m m' → K none m') : smC true 146 [vR (some (23, 231))] m K := by
  have hpl := hP.1.2.1
  obtain ⟨ho, hb, hb2⟩ := openB_ok hP (by omega)
  have h5 := hP.2.2.2.2.2.2.2.1
  have htok := openB_tok p
  have s1 := hP.2.2.2.1
  have e0 : gI m 30 238 (0 : Int32).toNatClampNeg = iZ p.2.2.2.1 := hC.2.2.2.1.1
  have rr := rowN_rng s1
  unfold pRest at hF hS
  simp only at hF hS
  have main : smE true 146 28 [some (vR (some (23, 231))), none, none] [vI (iZ (rowN p.2.2.2.1))] m K := by
    refine wp_ok (by decide) OK_146 (cc := cd_146) rfl (stops := [35]) 60 _ _ _ _ ?_
    refine And.intro trivial (M_opens h0 ⟨hP.1, hP.2.1, hP.2.2.1, hP.2.2.2.mono (by omega)⟩ hC (fun m1 C1 F1 => ?_))
    rw [← htok.2.2.2.2.1] at rr s1 ⊢
    have R1 : MRS m1 tp n (openB p).1 := by rw [htok.1]; exact hR.fr F1 (fun n k => by unfold AOp; omega) (fun k hk => by unfold AOp; omega)
    have o1 : MOk m1 := (MOk.fr h0 F1 (by unfold AOp; omega) (by unfold AOp; omega))
    have y26 : gI m1 23 231 26 = iZ ls := (F1.2 _ _ _ (by unfold AOp; omega)).trans e26
    have G1 : Fr AML m m1 := F1.mono (fun t n k z => by
      rcases z with z | z | z
      · exact Or.inl ⟨z.1, z.2.1, by omega⟩
      · exact Or.inr (Or.inl ⟨z.1, z.2.1⟩)
      · exact Or.inr (Or.inr z))
    generalize openB p = o at *
    refine And.intro trivial ?_
    have fin : ∀ (m2 : Mem), MRow m2 (rowN o.2.2.2.1) (fun _ => 0) → Fr (fun t n k => t = 30 ∧ n = 238 ∧ rowN o.2.2.2.1 ≤ k ∧ k < rowN o.2.2.2.1 + 30) m1 m2 → smE true 146 56 [some (vR (some (23, 231))), some (vI (iZ (rowN o.2.2.2.1))), some (vI (iZ 30))] [] m2 K := by
      intro m2 W2 F2
      have C2 : MPC m2 o := C1.fr F2 (fun t n k z => by omega) (fun k hk => by omega) (fun k hk => by omega)
      have R2 : MRS m2 tp n o.1 := R1.fr F2 (fun n k => by omega) (fun k hk => by omega)
      have o2 : MOk m2 := (MOk.fr o1 F2 (by omega) (by omega))
      have z26 : gI m2 23 231 26 = iZ ls := (F2.2 _ _ _ (by omega)).trans y26
      have G2 : Fr AML m m2 := G1.tr (F2.mono (fun t n k z => Or.inr (Or.inl ⟨z.1, z.2.1⟩)))
      have last : ∀ (mz : Mem), (∀ mw, Fr (fun t n k => t = 23 ∧ n = 231 ∧ k = 24) mz mw → gI mw 23 231 24 = 0 → K none mw) → smE true 146 65 [some (vR (some (23, 231))), some (vI (iZ (rowN o.2.2.2.1))), some (vI (iZ 30))] [] mz K := by
        intro mz hk
        refine wp_ok (by decide) OK_146 (cc := cd_146) rfl (stops := []) 20 _ _ _ _ ?_
        refine And.intro (Or.inl rfl) ?_
        exact And.intro trivial (hk _ (Fr.st ⟨rfl, rfl, rfl⟩) (by rw [gI_s, if_pos ⟨rfl, rfl, rfl⟩]))
      refine wp_ok (by decide) OK_146 (cc := cd_146) rfl (stops := [65]) 40 _ _ _ _ ?_
      refine And.intro trivial (M_fraction o2 hT hn ho.1 R2 (fun m3 e v h3 f3 F3 => ?_) (fun m3 l tb h3 R3 o3 F3 => ?_))
      · rw [h3] at hF
        refine And.intro trivial (M_lasts1 (MBad.of f3 (pFrac_e h3)) ?_)
        refine And.intro trivial (last m3 (fun mw Fw _ => hF mw e rfl ⟨(Fw.2 _ _ _ (by omega)).trans f3.1, (Fw.2 _ _ _ (by omega)).trans f3.2⟩ ((G2.tr (F3.mono (fun t n k z => AWr_AML z))).tr (Fw.mono (fun t n k z => Or.inl ⟨z.1, z.2.1, by omega⟩)))))
      have fr := pFrac_ok hT hn ho.1 (by decide) h3
      rw [h3] at hF hS
      simp only at hF hS
      have C3 : MPC m3 o := C2.fr F3 (fun t n k z => by unfold AWr; omega) (fun k hk => by unfold AWr; omega) (fun k hk => by unfold AWr; omega)
      have W3 := W2.fr F3 (fun n k => by unfold AWr; omega)
      have G3 : Fr AML m m3 := G2.tr (F3.mono (fun t n k z => AWr_AML z))
      refine And.intro trivial (M_lasts (tp := tp) (n := n) (p := o) (ls := ls) (r := rowN o.2.2.2.1) (l := l) (f := fun _ => 0) rfl rfl rr.1 (by omega) ⟨ho.1, ho.2.1, ho.2.2.1, ho.2.2.2.mono (by omega)⟩ ⟨hb, hb2⟩ o3 C3 ((F3.2 _ _ _ (by unfold AWr; omega)).trans z26) W3 (fun m4 hc f4 F4 => ?_) (fun m4 hc o4 W4 y19 y0 F4 => ?_) rr.2.1)
      · rw [if_pos hc] at hF
        refine And.intro trivial (last m4 (fun mw Fw _ => hF mw _ rfl ⟨(Fw.2 _ _ _ (by omega)).trans f4.1, (Fw.2 _ _ _ (by omega)).trans f4.2⟩ ((G3.tr (F4.mono (fun t n k z => Or.inl ⟨z.1, z.2.1, by omega⟩))).tr (Fw.mono (fun t n k z => Or.inl ⟨z.1, z.2.1, by omega⟩)))))
      rw [if_neg hc] at hS
      have hN48 : o.2.2.2.1 < 48 := by omega
      have er : rowN o.2.2.2.1 = 4 + 30 * o.2.2.2.1 := by unfold rowN; rw [if_neg (by omega)]
      refine And.intro trivial (last m4 (fun mw Fw z24 => hS mw _ rfl ?_ ?_ ⟨?_, ⟨?_, ?_, ?_, ?_⟩, ?_, ?_⟩ z24 ?_))
      · exact (R3.fr F4 (fun n k => by omega) (fun k hk => by omega)).fr Fw (fun n k => by omega) (fun k hk => by omega)
      · exact (MOk.fr o4 Fw (by omega) (by omega))
      · exact (C3.1.fr F4 (fun t n k z => by omega) (by omega)).fr Fw (fun t n k z => by omega) (by omega)
      · exact (Fw.2 _ _ _ (by omega)).trans ((F4.2 _ _ _ (by omega)).trans C3.2.1.1)
      · exact (Fw.2 _ _ _ (by omega)).trans ((F4.2 _ _ _ (by omega)).trans C3.2.1.2.1)
      · exact (Fw.2 _ _ _ (by omega)).trans ((F4.2 _ _ _ (by omega)).trans C3.2.1.2.2.1)
      · exact (Fw.2 _ _ _ (by omega)).trans y19
      · exact fun hz s hs => (Fw.2 _ _ _ (by omega)).trans ((F4.2 _ _ _ (by omega)).trans (C3.2.2.1 hz s hs))
      · refine MRD_add C3.2.2.2 hN48 hb2 ((Fw.2 _ _ _ (by omega)).trans y0) (fun w hw => ?_) (fun k hk => (Fw.2 _ _ _ (by omega)).trans (F4.2 _ _ _ (by omega)))
        rw [Fw.2 _ _ _ (by omega), ← er, W4 w hw]
        exact rest_row w hw
      · exact (G3.tr (F4.mono (fun t n k z => by
          rcases z with z | z
          · exact Or.inl ⟨z.1, z.2.1, by omega⟩
          · exact Or.inr (Or.inl ⟨z.1, z.2.1⟩)))).tr (Fw.mono (fun t n k z => Or.inl ⟨z.1, z.2.1, by omega⟩))
    have loop : ∀ (s j : Nat) (mz : Mem), j + s = 30 → (∀ w, w < j → gI mz 30 238 (rowN o.2.2.2.1 + w) = 0) → Fr (fun t n k => t = 30 ∧ n = 238 ∧ rowN o.2.2.2.1 ≤ k ∧ k < rowN o.2.2.2.1 + 30) m1 mz → smE true 146 35 [some (vR (some (23, 231))), some (vI (iZ (rowN o.2.2.2.1))), some (vI (iZ j))] [] mz K := by
      intro s
      induction s with
      | zero =>
        intro j mz ej hj Fz
        have ej : j = 30 := by omega
        subst ej
        refine wp1_ok (by decide) OK_146 (cc := cd_146) rfl (stops := [35, 56]) (f := 30) ?_
        refine And.intro (fun _ => And.intro trivial (fin mz hj Fz)) (fun z => absurd (by decide) z)
      | succ s ih =>
        intro j mz ej hj Fz
        have ea : iZ (rowN o.2.2.2.1 : Int) + iZ (j : Int) = iZ ((rowN o.2.2.2.1 + j : Nat) : Int) := by rw [iZ_add]; congr 1
        refine wp1_ok (by decide) OK_146 (cc := cd_146) rfl (stops := [35, 56]) (f := 30) ?_
        refine And.intro (fun z => ?_) (fun _ => ?_)
        · rw [L30, iZ_le (by decide) (by constructor <;> omega)] at z; omega
        refine And.intro (by rw [ea]; exact (iZ_in (by constructor <;> omega)).mpr (by omega)) ?_
        refine And.intro trivial ?_
        rw [ea, iZ_clamp (by constructor <;> omega), show ((rowN o.2.2.2.1 + j : Nat) : Int).toNat = rowN o.2.2.2.1 + j by omega, L1, iZ_add]
        refine ih (j + 1) _ (by omega) (fun w hw => ?_) (Fz.tr (Fr.st ⟨rfl, rfl, by omega⟩))
        rw [gI_s]
        by_cases e : w = j
        · rw [if_pos ⟨by rw [e], rfl, rfl⟩]
        · rw [if_neg (by omega)]; exact hj w (by omega)
    exact loop 30 0 m1 (by omega) (fun w hw => by omega) (Fr.rf _ _)
  refine smC_wp [some (vR (some (23, 231))), none, none] cd_146 [28] 60 OK_146 (by decide) rfl rfl (Nat.le_of_ble_eq_true rfl) ?_
  refine And.intro (by rw [L0, iZ_in (by decide)]; decide) ?_
  rw [e0]
  refine And.intro (fun u => ?_) (fun u => ?_)
  · rw [L48, iZ_eq (by constructor <;> omega) (by decide)] at u
    refine And.intro (by rw [L0, iZ_in (by decide)]; decide) ?_
    refine And.intro trivial ?_
    have ev : (4 : Int32) + 30 * gI m 30 238 (0 : Int32).toNatClampNeg = iZ (rowN p.2.2.2.1) := by
      rw [e0, L4, L30, iZ_mul, iZ_add]; congr 1; unfold rowN; rw [if_neg (by omega)]; omega
    rw [ev]; exact main
  · rw [L48, iZ_eq (by constructor <;> omega) (by decide)] at u
    refine And.intro trivial ?_
    have ev : (1604 : Int32) = iZ (rowN p.2.2.2.1) := by unfold rowN; rw [if_pos (by omega)]; rfl
    rw [ev]; exact main
end MREST
