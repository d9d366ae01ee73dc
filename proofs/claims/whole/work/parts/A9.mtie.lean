/-! THE MODEL's reader: a tie's line -/
section MTIE
variable {m : Mem} {K : Option SV → Mem → Prop} {tp : Nat → Int} {n ls q : Nat} {p : PS}
theorem AOp_AML {b t n k : Nat} (z : AOp b t n k) : AML t n k := by
  rcases z with z | z | z
  · exact Or.inl ⟨z.1, z.2.1, by omega⟩
  · exact Or.inr (Or.inl ⟨z.1, z.2.1⟩)
  · exact Or.inr (Or.inr z)
theorem M_tieLine {bh : Bool} (hT : TPOK tp) (hn : n ≤ 800) (hq : q + 3 ≤ p.1.2.1) (hP : POK tp n p q) (h0 : MOk m) (hR : MRS m tp n p.1) (hC : MPC m p) (e26 : gI m 23 231 26 = iZ ls) (e24 : gI m 23 231 24 = (if bh then 1 else 0)) (hbh : bh = true ↔ (0 < p.2.2.2.1 ∧ p.2.2.2.2.1 (p.2.2.2.1 - 1) 0 = 1))
    (hF : ∀ m' e, pTie tp n ls p = .inl e → MFt m' e → Fr AML m m' → K none m') (hS : ∀ m' p', pTie tp n ls p = .inr p' → MRS m' tp n p'.1 → MOk m' → MPC m' p' → gI m' 23 231 24 = 1 → Fr AML m m' → K none m') : smC true 162 [vR (some (23, 231))] m K := by
  have hpl := hP.1.2.1
  obtain ⟨ho, hb, hb2⟩ := openB_ok hP (by omega)
  have h5 := hP.2.2.2.2.2.2.2.1
  have htok := openB_tok p
  rw [← htok.2.2.2.2.1, ← htok.2.2.2.2.2.1] at hbh
  unfold pTie at hF hS
  simp only at hF hS
  refine smC_wp [some (vR (some (23, 231))), none, none] cd_162 [36, 45] 60 OK_162 (by decide) rfl rfl (Nat.le_of_ble_eq_true rfl) ?_
  refine And.intro trivial (M_opens h0 ⟨hP.1, hP.2.1, hP.2.2.1, hP.2.2.2.mono (by omega)⟩ hC (fun m1 C1 F1 => ?_))
  have R1 : MRS m1 tp n (openB p).1 := by rw [htok.1]; exact hR.fr F1 (fun n k => by unfold AOp; omega) (fun k hk => by unfold AOp; omega)
  have o1 : MOk m1 := (MOk.fr h0 F1 (by unfold AOp; omega) (by unfold AOp; omega))
  have y26 : gI m1 23 231 26 = iZ ls := (F1.2 _ _ _ (by unfold AOp; omega)).trans e26
  have y24 : gI m1 23 231 24 = (if bh then 1 else 0) := (F1.2 _ _ _ (by unfold AOp; omega)).trans e24
  have G1 : Fr AML m m1 := F1.mono (fun t n k z => AOp_AML z)
  generalize openB p = o at *
  refine And.intro trivial (M_fraction o1 hT hn ho.1 R1 (fun m3 e v h3 f3 F3 => ?_) (fun m3 l tb h3 R3 o3 F3 => ?_))
  · rw [h3] at hF
    have bd := MBad.of f3 (pFrac_e h3)
    refine And.intro (fun _ => ?_) (fun u => absurd u bd.ne)
    refine And.intro trivial ?_
    refine wp1_ok (by decide) OK_162 (cc := cd_162) rfl (stops := []) (f := 30) ?_
    refine And.intro (fun u => absurd u bd.ne) (fun _ => ?_)
    exact And.intro trivial (hF m3 e rfl f3 (G1.tr (F3.mono (fun t n k z => AWr_AML z))))
  have fr := pFrac_ok hT hn ho.1 (by decide) h3
  rw [h3] at hF hS
  simp only at hF hS
  have C3 : MPC m3 o := C1.fr F3 (fun t n k z => by unfold AWr; omega) (fun k hk => by unfold AWr; omega) (fun k hk => by unfold AWr; omega)
  have G3 : Fr AML m m3 := G1.tr (F3.mono (fun t n k z => AWr_AML z))
  have z26 : gI m3 23 231 26 = iZ ls := (F3.2 _ _ _ (by unfold AWr; omega)).trans y26
  have z24 : gI m3 23 231 24 = (if bh then 1 else 0) := (F3.2 _ _ _ (by unfold AWr; omega)).trans y24
  have s1 := ho.2.2.2.1
  have s4 := ho.2.2.2.2.2.2.1
  have fail : (¬ (0 < o.2.2.2.1 ∧ o.2.2.2.2.1 (o.2.2.2.1 - 1) 0 = 1) ∨ o.2.1.2.2.2 < o.2.2.2.2.2.2.2 + l) → smE true 162 36 [some (vR (some (23, 231))), some (vI (iZ (3 * l))), none] [] m3 K := by
    intro hc
    rw [if_pos hc] at hF
    refine wp_ok (by decide) OK_162 (cc := cd_162) rfl (stops := []) 40 _ _ _ _ ?_
    refine And.intro trivial (M_fails (a := 3) (p := ls) rfl z26 o3 (fun m4 f4 F4 => ?_))
    refine And.intro (fun u => absurd u (bad_ne f4 (ek3 _))) (fun _ => ?_)
    exact And.intro trivial (hF m4 _ rfl f4 (G3.tr (F4.mono (fun t n k z => Or.inl ⟨z.1, z.2.1, by omega⟩))))
  refine And.intro (fun u => absurd o3.1 u) (fun _ => ?_)
  cases bh with
  | false =>
    refine And.intro (fun _ => ?_) (fun u => absurd z24 u)
    exact And.intro trivial (fail (Or.inl (fun w => absurd (hbh.mpr w) (by decide))))
  | true =>
    have hN := hbh.mp rfl
    refine And.intro (fun u => absurd (z24.symm.trans u) (by decide)) (fun _ => ?_)
    obtain ⟨hB, ⟨c23, c21, c20, c19⟩, hto, ⟨d0, d1⟩, dr, db⟩ := id C3
    refine And.intro (fun u => ?_) (fun u => ?_)
    rotate_left
    · rw [c19, c20, iZ_add, iZ_le (by constructor <;> omega) (by constructor <;> omega)] at u
      exact And.intro trivial (fail (Or.inr (by omega)))
    rw [c19, c20, iZ_add, iZ_le (by constructor <;> omega) (by constructor <;> omega)] at u
    rw [if_neg (by
      rintro (w | w)
      · exact w hN
      · omega)] at hS
    refine And.intro trivial ?_
    refine wp1_ok (by decide) OK_162 (cc := cd_162) rfl (stops := [67]) (f := 40) ?_
    refine And.intro (fun _ => ?_) (fun w => absurd o3.1 w)
    refine And.intro (by rw [L0, iZ_in (by decide)]; decide) ?_
    refine And.intro trivial ?_
    have e0 : gI m3 30 238 (0 : Int32).toNatClampNeg = iZ o.2.2.2.1 := d0
    have er : (4 : Int32) + 30 * (gI m3 30 238 (0 : Int32).toNatClampNeg - 1) = iZ ((4 + 30 * (o.2.2.2.1 - 1) : Nat) : Int) := by
      rw [e0, L1, L4, L30, iZ_sub, iZ_mul, iZ_add]; congr 1; omega
    rw [er]
    generalize hrr : 4 + 30 * (o.2.2.2.1 - 1) = r at *
    have r5 : gI m3 30 238 (r + 5) = iZ (3 * o.2.2.2.2.1 (o.2.2.2.1 - 1) 5) := by rw [← hrr]; exact dr (o.2.2.2.1 - 1) 5 (by omega) (by decide)
    have r7 : gI m3 30 238 (r + 7) = iZ (o.2.2.2.2.1 (o.2.2.2.1 - 1) 7) := by rw [← hrr]; exact dr (o.2.2.2.1 - 1) 7 (by omega) (by decide)
    have a5 : iZ (r : Int) + 5 = iZ ((r + 5 : Nat) : Int) := by rw [L5, iZ_add]; congr 1
    have a7 : iZ (r : Int) + 7 = iZ ((r + 7 : Nat) : Int) := by rw [L7, iZ_add]; congr 1
    have b5 : (iZ ((r + 5 : Nat) : Int)).toNatClampNeg = r + 5 := by rw [iZ_clamp (by constructor <;> omega)]; omega
    have b7 : (iZ ((r + 7 : Nat) : Int)).toNatClampNeg = r + 7 := by rw [iZ_clamp (by constructor <;> omega)]; omega
    have i5 : vp_in (iZ (r : Int) + 5) 1634 := by rw [a5]; exact (iZ_in (by constructor <;> omega)).mpr (by omega)
    have i7 : vp_in (iZ (r : Int) + 7) 1634 := by rw [a7]; exact (iZ_in (by constructor <;> omega)).mpr (by omega)
    refine wp1_ok (by decide) OK_162 (cc := cd_162) rfl (stops := []) (f := 60) ?_
    refine And.intro i5 ?_
    refine And.intro i5 ?_
    refine And.intro i7 ?_
    refine And.intro i7 ?_
    refine And.intro trivial ?_
    have e5 : 3 * o.2.2.2.2.1 (o.2.2.2.1 - 1) 5 + 3 * l = 3 * (o.2.2.2.2.1 (o.2.2.2.1 - 1) 5 + l) := by omega
    have q7 : gI (sI m3 30 238 (r + 5) (iZ (3 * (o.2.2.2.2.1 (o.2.2.2.1 - 1) 5 + l)))) 30 238 (r + 7) = iZ (o.2.2.2.2.1 (o.2.2.2.1 - 1) 7) := by rw [gI_s, if_neg (by omega)]; exact r7
    have q19 : gI (sI (sI m3 30 238 (r + 5) (iZ (3 * (o.2.2.2.2.1 (o.2.2.2.1 - 1) 5 + l)))) 30 238 (r + 7) (iZ (o.2.2.2.2.1 (o.2.2.2.1 - 1) 7 + 1))) 23 231 19 = iZ (3 * o.2.2.2.2.2.2.2) := by rw [gI_s, if_neg (by omega), gI_s, if_neg (by omega)]; exact c19
    rw [a5, b5, r5, iZ_add, e5, a7, b7, q7, L1, iZ_add, q19, iZ_add, show 3 * o.2.2.2.2.2.2.2 + 3 * l = 3 * (o.2.2.2.2.2.2.2 + l) by omega]
    have FZ : Fr (fun t n k => (t = 30 ∧ n = 238 ∧ (k = r + 5 ∨ k = r + 7)) ∨ (t = 23 ∧ n = 231 ∧ k = 19)) m3 (sI (sI (sI m3 30 238 (r + 5) (iZ (3 * (o.2.2.2.2.1 (o.2.2.2.1 - 1) 5 + l)))) 30 238 (r + 7) (iZ (o.2.2.2.2.1 (o.2.2.2.1 - 1) 7 + 1))) 23 231 19 (iZ (3 * (o.2.2.2.2.2.2.2 + l)))) := ((Fr.st (Or.inl ⟨rfl, rfl, Or.inl rfl⟩)).tr (Fr.st (Or.inl ⟨rfl, rfl, Or.inr rfl⟩))).tr (Fr.st (Or.inr ⟨rfl, rfl, rfl⟩))
    have w5 : gI (sI (sI (sI m3 30 238 (r + 5) (iZ (3 * (o.2.2.2.2.1 (o.2.2.2.1 - 1) 5 + l)))) 30 238 (r + 7) (iZ (o.2.2.2.2.1 (o.2.2.2.1 - 1) 7 + 1))) 23 231 19 (iZ (3 * (o.2.2.2.2.2.2.2 + l)))) 30 238 (r + 5) = iZ (3 * (o.2.2.2.2.1 (o.2.2.2.1 - 1) 5 + l)) := by rw [gI_s, if_neg (by omega), gI_s, if_neg (by omega), gI_s, if_pos ⟨rfl, rfl, rfl⟩]
    have w7 : gI (sI (sI (sI m3 30 238 (r + 5) (iZ (3 * (o.2.2.2.2.1 (o.2.2.2.1 - 1) 5 + l)))) 30 238 (r + 7) (iZ (o.2.2.2.2.1 (o.2.2.2.1 - 1) 7 + 1))) 23 231 19 (iZ (3 * (o.2.2.2.2.2.2.2 + l)))) 30 238 (r + 7) = iZ (o.2.2.2.2.1 (o.2.2.2.1 - 1) 7 + 1) := by rw [gI_s, if_neg (by omega), gI_s, if_pos ⟨rfl, rfl, rfl⟩]
    have w19 : gI (sI (sI (sI m3 30 238 (r + 5) (iZ (3 * (o.2.2.2.2.1 (o.2.2.2.1 - 1) 5 + l)))) 30 238 (r + 7) (iZ (o.2.2.2.2.1 (o.2.2.2.1 - 1) 7 + 1))) 23 231 19 (iZ (3 * (o.2.2.2.2.2.2.2 + l)))) 23 231 19 = iZ (3 * (o.2.2.2.2.2.2.2 + l)) := by rw [gI_s, if_pos ⟨rfl, rfl, rfl⟩]
    generalize sI (sI (sI m3 30 238 (r + 5) (iZ (3 * (o.2.2.2.2.1 (o.2.2.2.1 - 1) 5 + l)))) 30 238 (r + 7) (iZ (o.2.2.2.2.1 (o.2.2.2.1 - 1) 7 + 1))) 23 231 19 (iZ (3 * (o.2.2.2.2.2.2.2 + l))) = mz at *
    refine hS mz _ rfl (R3.fr FZ (fun n k => by omega) (fun k hk => by omega)) ((MOk.fr o3 FZ (by omega) (by omega))) ⟨hB.fr FZ (fun t n k z => by omega) (by omega), ⟨(FZ.2 _ _ _ (by omega)).trans c23, (FZ.2 _ _ _ (by omega)).trans c21, (FZ.2 _ _ _ (by omega)).trans c20, w19⟩, fun hz s hs => (FZ.2 _ _ _ (by omega)).trans (hto hz s hs), ⟨⟨(FZ.2 _ _ _ (by omega)).trans d0, (FZ.2 _ _ _ (by omega)).trans d1⟩, fun i w hi hw => ?_, fun k hk => (FZ.2 _ _ _ (by have hk : k < o.2.2.2.2.2.1 := hk; omega)).trans (db k hk)⟩⟩ ((FZ.2 _ _ _ (by omega)).trans z24) (G3.tr (FZ.mono (fun t n k z => ?_)))
    · have hi : i < o.2.2.2.1 := hi
      show gI mz 30 238 (4 + 30 * i + w) = iZ (mw w (upq o.2.2.2.2.1 (o.2.2.2.1 - 1) (tieF (o.2.2.2.2.1 (o.2.2.2.1 - 1)) l) i w))
      by_cases ei : i = o.2.2.2.1 - 1
      · rw [ei, upq_s, hrr]
        by_cases h5w : w = 5
        · subst h5w; exact w5
        · by_cases h7w : w = 7
          · subst h7w; exact w7
          · rw [tieF_ne h5w h7w, FZ.2 _ _ _ (by omega), ← hrr]; exact dr (o.2.2.2.1 - 1) w (by omega) hw
      · have eu : upq o.2.2.2.2.1 (o.2.2.2.1 - 1) (tieF (o.2.2.2.2.1 (o.2.2.2.1 - 1)) l) i = o.2.2.2.2.1 i := by unfold upq; rw [if_neg ei]
        rw [eu, FZ.2 _ _ _ (by omega)]; exact dr i w hi hw
    · rcases z with z | z
      · exact Or.inr (Or.inl ⟨z.1, z.2.1⟩)
      · exact Or.inl ⟨z.1, z.2.1, by omega⟩
end MTIE
