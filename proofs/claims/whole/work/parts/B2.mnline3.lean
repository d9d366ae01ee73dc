/-! THE MODEL's reader: a note's line, from its fraction on; the whole line -/
section MNL2
variable {m : Mem} {K : Option SV → Mem → Prop} {tp : Nat → Int} {n ls q r : Nat} {p : PS} {g : Nat → Int32}
theorem ARw_AML {t n k : Nat} (z : ARw r t n k) : AML t n k := Or.inr (Or.inl ⟨z.1, z.2.1⟩)
theorem AZr_AML {t n k : Nat} (z : AZr r t n k) : AML t n k := by
  rcases z with (z | z | z) | z
  · exact AWr_AML z
  · exact Or.inl ⟨z.1, z.2.1, by omega⟩
  · exact Or.inr (Or.inr z)
  · exact Or.inr (Or.inl ⟨z.1, z.2.1⟩)
theorem AZt_AML {t n k : Nat} (z : AZt t n k) : AML t n k := AZr_AML (r := 0) (Or.inl z)
theorem ABr_AML {t n k : Nat} (z : ABr r t n k) : AML t n k := by
  rcases z with z | z | z
  · exact AWr_AML z
  · exact Or.inl ⟨z.1, z.2.1, by omega⟩
  · exact Or.inr (Or.inl ⟨z.1, z.2.1⟩)
theorem ANb_AML {t n k : Nat} (z : ANb t n k) : AML t n k := Or.inl ⟨z.1, z.2.1, by have := z.2.2; omega⟩
theorem AU_AML {t n k : Nat} (z : AU t n k) : AML t n k := AWr_AML (AU_AWr z)
theorem nk_235 {x : Int × Int × Int} (er : r = rowN p.2.2.2.1) (hT : TPOK tp) (hn : n ≤ 800) (hP : POK tp n p 815) (hb : 0 < p.2.2.2.2.2.1 ∧ p.2.2.2.2.2.1 ≤ 115) (h0 : MOk m) (hR : MRS m tp n p.1) (hC : MPC m p) (e26 : gI m 23 231 26 = iZ ls) (hM : MRow m r (nG x.1 x.2.1 x.2.2 (tldN p.2.2.1 (7 * x.2.1 + x.1 + 1)) (tldN p.2.2.1 (7 * x.2.1 + x.1 - 1)) (tldN p.2.2.1 (7 * x.2.1 + x.1 - 2))))
    (hF : ∀ m' e, pN2 tp n ls p x = .inl e → MFt m' e → Fr AML m m' → K none m') (hS : ∀ m' p', pN2 tp n ls p x = .inr p' → MRS m' tp n p'.1 → MOk m' → MPC m' p' → gI m' 23 231 24 = 1 → Fr AML m m' → K none m') : smE true 151 235 [some (vR (some (23, 231))), some (vI (iZ r)), some (vI (iZ 30)), none] [] m K := by
  have s1 := hP.2.2.2.1
  have rr := rowN_rng s1
  rw [← er] at rr
  unfold pN2 at hF hS
  refine wp_ok (by decide) OK_151 (cc := cd_151) rfl (stops := [240]) 60 _ _ _ _ ?_
  refine And.intro trivial (M_fraction h0 hT hn hP.1 hR (fun m1 e w h1 f1 F1 => ?_) (fun m1 l t2 h1 R1 o1 F1 => ?_))
  · rw [h1] at hF
    exact And.intro trivial (nl_240 rr.1 f1 (pFrac_e h1) (fun m2 f2 F2 => hF m2 e rfl f2 ((F1.mono (fun t n k z => AWr_AML z)).tr (F2.mono (fun t n k z => ANb_AML z)))))
  have a2 := pFrac_ok hT hn hP.1 (by decide) h1
  rw [h1] at hF hS
  simp only at hF hS
  have C1 : MPC m1 p := hC.fr F1 (fun t n k z => by unfold AWr; omega) (fun k hk => by unfold AWr; omega) (fun k hk => by unfold AWr; omega)
  have W1 := hM.fr F1 (fun n k => by unfold AWr; omega)
  have y26 : gI m1 23 231 26 = iZ ls := (F1.2 _ _ _ (by unfold AWr; omega)).trans e26
  have G1 : Fr AML m m1 := F1.mono (fun t n k z => AWr_AML z)
  refine And.intro trivial ?_
  refine wp_ok (by decide) OK_151 (cc := cd_151) rfl (stops := [245]) 60 _ _ _ _ ?_
  refine And.intro trivial (M_prefixR rfl rr.1 o1 C1.1 hP.2.1.1 hP.2.2.1 (C1.2.2.1 hb.1) hT hn a2.2.1 R1 (W1.eq nG_pre) (fun m2 e h2 f2 F2 => ?_) (fun m2 pf gs told2 t3 h2 R2 o2 T2 B2 W2 F2 => ?_))
  · rw [h2] at hF
    exact And.intro trivial (nl_245 rr.1 f2 (pPre_e h2) (fun m3 f3 F3 => hF m3 e rfl f3 ((G1.tr (F2.mono (fun t n k z => AZr_AML z))).tr (F3.mono (fun t n k z => ANb_AML z)))))
  have a3 := pPre_ok hT hn a2.2.1 hP.2.2.1 h2
  rw [h2] at hF hS
  simp only at hF hS
  have C2 : MPC m2 (t3, p.2.1, told2, p.2.2.2) := C1.to F2 (fun t n k z => by unfold AZr AZt AWr; omega) (fun k hk => by unfold AZr AZt AWr; omega) (fun k hk => by unfold AZr AZt AWr; omega) T2
  have z26 : gI m2 23 231 26 = iZ ls := (F2.2 _ _ _ (by unfold AZr AZt AWr; omega)).trans y26
  have G2 : Fr AML m m2 := G1.tr (F2.mono (fun t n k z => AZr_AML z))
  refine And.intro trivial ?_
  refine wp_ok (by decide) OK_151 (cc := cd_151) rfl (stops := [250]) 60 _ _ _ _ ?_
  refine And.intro trivial (M_readsBody rfl rr.1 o2 C2.1.2.1 hT hn a3.2.2.2.1 R2 (W2.eq nG_bod) (fun m3 e h3 f3 F3 => ?_) (fun m3 bd q t4 h3 R3 o3 d3 W3 y30 F3 => ?_))
  · rw [h3] at hF
    have he := pBody_e h3
    refine And.intro trivial ?_
    refine wp_ok (by decide) OK_151 (cc := cd_151) rfl (stops := [287]) 60 _ _ _ _ ?_
    refine And.intro trivial (M_passes1 (k := 19) rfl (by decide) (MBad.of f3 he) ?_)
    refine And.intro (fun _ => ?_) (fun u => absurd rfl u)
    refine And.intro trivial (M_passes1 (k := 20) rfl (by decide) (MBad.of f3 he) ?_)
    refine And.intro (fun _ => ?_) (fun u => absurd rfl u)
    exact And.intro trivial (nl_287 rr.1 f3 he (fun m4 f4 F4 => hF m4 e rfl f4 ((G2.tr (F3.mono (fun t n k z => ABr_AML z))).tr (F4.mono (fun t n k z => Or.inl ⟨z.1, z.2.1, by omega⟩)))))
  have a4 := pBody_ok hT hn a3.2.2.2.1 h3
  have a5 := pBeh_ok hT hn a4.2.2.1
  rw [h3] at hF hS
  simp only at hF hS
  have C3 : MPC m3 (t3, p.2.1, told2, p.2.2.2) := C2.fr F3 (fun t n k z => by unfold ABr AWr; omega) (fun k hk => by unfold ABr AWr; omega) (fun k hk => by
    have hk : k = 0 ∨ k = 1 ∨ (4 ≤ k ∧ k < 4 + 30 * p.2.2.2.1) ∨ (1444 ≤ k ∧ k < 1444 + p.2.2.2.2.2.1) := hk
    unfold ABr AWr; omega)
  have w26 : gI m3 23 231 26 = iZ ls := (F3.2 _ _ _ (by unfold ABr AWr; omega)).trans z26
  have G3 : Fr AML m m3 := G2.tr (F3.mono (fun t n k z => ABr_AML z))
  have fin : ∀ (mz : Mem) (bh : Int) (tb : TK), pBeh tp n t4 = (bh, tb) → MRS mz tp n tb → MOk mz → MRow mz r (behG (bodG (preG (nG x.1 x.2.1 x.2.2 (tldN p.2.2.1 (7 * x.2.1 + x.1 + 1)) (tldN p.2.2.1 (7 * x.2.1 + x.1 - 1)) (tldN p.2.2.1 (7 * x.2.1 + x.1 - 2))) pf gs) bd q.1 q.2.1) bh) → Fr (fun t n k => AU t n k ∨ ARw r t n k) m3 mz → smE true 151 287 [some (vR (some (23, 231))), some (vI (iZ r)), some (vI (iZ (3 * l))), none] [] mz K := by
    intro mz bh tb eb Rz oz Wz Fz
    rw [eb] at hF hS a5
    simp only at hF hS a5
    have Gz : Fr AML m mz := G3.tr (Fz.mono (fun t n k z => by
      rcases z with z | z
      · exact AU_AML z
      · exact ARw_AML z))
    have Cz : MPC mz (tb, p.2.1, told2, p.2.2.2) := C3.fr Fz (fun t n k z => by unfold AU ARw; omega) (fun k hk => by unfold AU ARw; omega) (fun k hk => by
      have hk : k = 0 ∨ k = 1 ∨ (4 ≤ k ∧ k < 4 + 30 * p.2.2.2.1) ∨ (1444 ≤ k ∧ k < 1444 + p.2.2.2.2.2.1) := hk
      unfold AU ARw; omega)
    refine nk_287 (tp := tp) (n := n) (ls := ls) (p := (tb, p.2.1, told2, p.2.2.2)) (l := l) (bd := bd) (bh := bh) (tw := q.2.2) rfl er (by omega) ⟨a5.2.1, hP.2.1, a3.2.2.1, hP.2.2.2⟩ hb oz Rz Cz ((Fz.2 _ _ _ (by unfold AU ARw; omega)).trans w26) Wz a4.1 a5.1 rfl rfl ((Fz.2 _ _ _ (by unfold AU ARw; omega)).trans y30) note_row (fun m' hc f' F' => ?_) (fun m' hc R' o' C' z' F' => ?_)
    · rw [if_pos hc] at hF
      exact hF m' _ rfl f' (Gz.tr F')
    · rw [if_neg hc] at hS
      exact hS m' _ rfl R' o' C' z' (Gz.tr F')
  refine And.intro trivial ?_
  refine wp_ok (by decide) OK_151 (cc := cd_151) rfl (stops := [287]) 60 _ _ _ _ ?_
  refine And.intro trivial (M_passes (k := 19) rfl (by decide) o3 d3 hT hn a4.2.2.1 R3 (fun m4 i4 R4 F4 => ?_) (fun i4 => ?_))
  · refine And.intro (fun u => absurd u (by decide)) (fun _ => ?_)
    have W4 := W3.fr F4 (fun n k => by unfold AU; omega)
    have o4 : MOk m4 := (MOk.fr o3 F4 (by unfold AU; omega) (by unfold AU; omega))
    refine And.intro trivial (M_tk (r := r) (w := 12) (v' := iZ 1) rfl rfl (by decide) rr.1 rfl W4 (fun m5 W5 F5 => ?_))
    exact And.intro trivial (fin m5 1 (nx tp n t4) (by unfold pBeh; rw [if_pos i4]) (R4.fr F5 (fun n k => by unfold ARw; omega) (fun k hk => by unfold ARw; omega)) ((MOk.fr o4 F5 (by unfold ARw; omega) (by unfold ARw; omega))) (W5.eq beh_up) ((F4.mono (fun t n k z => Or.inl z)).tr (F5.mono (fun t n k z => Or.inr z))))
  · refine And.intro (fun _ => ?_) (fun u => absurd rfl u)
    refine And.intro trivial (M_passes (k := 20) rfl (by decide) o3 d3 hT hn a4.2.2.1 R3 (fun m4 i5 R4 F4 => ?_) (fun i5 => ?_))
    · refine And.intro (fun u => absurd u (by decide)) (fun _ => ?_)
      have W4 := W3.fr F4 (fun n k => by unfold AU; omega)
      have o4 : MOk m4 := (MOk.fr o3 F4 (by unfold AU; omega) (by unfold AU; omega))
      refine And.intro trivial (M_tk (r := r) (w := 12) (v' := iZ 2) rfl rfl (by decide) rr.1 rfl W4 (fun m5 W5 F5 => ?_))
      exact And.intro trivial (fin m5 2 (nx tp n t4) (by unfold pBeh; rw [if_neg i4, if_pos i5]) (R4.fr F5 (fun n k => by unfold ARw; omega) (fun k hk => by unfold ARw; omega)) ((MOk.fr o4 F5 (by unfold ARw; omega) (by unfold ARw; omega))) (W5.eq beh_up) ((F4.mono (fun t n k z => Or.inl z)).tr (F5.mono (fun t n k z => Or.inr z))))
    · refine And.intro (fun _ => ?_) (fun u => absurd rfl u)
      exact And.intro trivial (fin m3 0 t4 (by unfold pBeh; rw [if_neg i4, if_neg i5]) R3 o3 (W3.eq beh_0) (Fr.rf _ _))
/-- from the tone on -/
theorem nk_76 {x : Int × Int × Int} (er : r = rowN p.2.2.2.1) (hT : TPOK tp) (hn : n ≤ 800) (hP : POK tp n p 815) (hb : 0 < p.2.2.2.2.2.1 ∧ p.2.2.2.2.2.1 ≤ 115) (h0 : MOk m) (hR : MRS m tp n p.1) (hC : MPC m p) (e26 : gI m 23 231 26 = iZ ls) (hM : MRow m r (upd (upd (fun _ => 0) 13 2) 14 2)) (y27 : gI m 23 231 27 = iZ x.1) (y28 : gI m 23 231 28 = iZ x.2.1) (y29 : gI m 23 231 29 = iZ x.2.2) (r1 : 0 ≤ x.1 ∧ x.1 ≤ 6) (r2 : 0 ≤ x.2.1 ∧ x.2.1 ≤ 8)
    (hF : ∀ m' e, pN2 tp n ls p x = .inl e → MFt m' e → Fr AML m m' → K none m') (hS : ∀ m' p', pN2 tp n ls p x = .inr p' → MRS m' tp n p'.1 → MOk m' → MPC m' p' → gI m' 23 231 24 = 1 → Fr AML m m' → K none m') : smE true 151 76 [some (vR (some (23, 231))), some (vI (iZ r)), some (vI (iZ 30)), none] [] m K := by
  have s1 := hP.2.2.2.1
  have rr := rowN_rng s1
  rw [← er] at rr
  have k1 : ∀ (mz : Mem), Fr (ARw r) m mz → MRow mz r (nG x.1 x.2.1 x.2.2 (tldN p.2.2.1 (7 * x.2.1 + x.1 + 1)) (tldN p.2.2.1 (7 * x.2.1 + x.1 - 1)) (tldN p.2.2.1 (7 * x.2.1 + x.1 - 2))) → smE true 151 235 [some (vR (some (23, 231))), some (vI (iZ r)), some (vI (iZ 30)), none] [] mz K := by
    intro mz Fz Wz
    refine nk_235 er hT hn hP hb ((MOk.fr h0 Fz (by unfold ARw; omega) (by unfold ARw; omega))) (hR.fr Fz (fun n k => by unfold ARw; omega) (fun k hk => by unfold ARw; omega)) (hC.fr Fz (fun t n k z => by unfold ARw; omega) (fun k hk => by unfold ARw; omega) (fun k hk => by unfold ARw; omega)) ((Fz.2 _ _ _ (by unfold ARw; omega)).trans e26) Wz (fun m' e h' f' F' => hF m' e h' f' ((Fz.mono (fun t n k z => ARw_AML z)).tr F')) (fun m' p' h' R' o' C' z' F' => hS m' p' h' R' o' C' z' ((Fz.mono (fun t n k z => ARw_AML z)).tr F'))
  have v : ∀ {mz : Mem}, Fr (ARw r) m mz → gI mz 23 231 27 = iZ x.1 ∧ gI mz 23 231 28 = iZ x.2.1 ∧ gI mz 23 231 29 = iZ x.2.2 ∧ MTo mz p.2.2.1 ∧ MOk mz := by
    intro mz Fz
    exact ⟨(Fz.2 _ _ _ (by unfold ARw; omega)).trans y27, (Fz.2 _ _ _ (by unfold ARw; omega)).trans y28, (Fz.2 _ _ _ (by unfold ARw; omega)).trans y29, fun s hs => (Fz.2 _ _ _ (by unfold ARw; omega)).trans (hC.2.2.1 hb.1 s hs), (MOk.fr h0 Fz (by unfold ARw; omega) (by unfold ARw; omega))⟩
  have k2 : ∀ (mz : Mem), Fr (ARw r) m mz → MRow mz r (upd (upd (upd (upd (upd (upd (upd (upd (fun _ => 0) 13 2) 14 2) 0 1) 1 (iZ x.1)) 2 (iZ x.2.1)) 3 (iZ x.2.2)) 15 (iZ (tldN p.2.2.1 (7 * x.2.1 + x.1 + 1)))) 16 (iZ (tldN p.2.2.1 (7 * x.2.1 + x.1 - 1)))) → smE true 151 197 [some (vR (some (23, 231))), some (vI (iZ r)), some (vI (iZ 30)), none] [] mz K := by
    intro mz Fz Wz
    obtain ⟨a27, a28, a29, aT, ao⟩ := v Fz
    refine wp_ok (by decide) OK_151 (cc := cd_151) rfl (stops := [235]) 60 _ _ _ _ ?_
    refine And.intro (by decide) ?_
    refine And.intro (fun u => ?_) (fun u => ?_)
    · rw [a27, L2, iZ_le (by decide) (by constructor <;> omega)] at u
      refine And.intro trivial (M_heldAt (s := 7 * x.2.1 + x.1 - 2) (told := p.2.2.1) (by rw [a27, L5, L7, iZ_add, iZ_rem (by constructor <;> omega) (by decide) (by omega) (by decide)]; congr 1; omega) (by rw [a28, L0, iZ_sub]; congr 1; omega) (by omega) aT ?_)
      refine And.intro trivial (M_tk (r := r) (w := 17) rfl rfl (by decide) rr.1 rfl Wz (fun m1 W1 F1 => ?_))
      exact And.intro trivial (k1 m1 (Fz.tr F1) (W1.eq nG_up))
    · rw [a27, L2, iZ_le (by decide) (by constructor <;> omega)] at u
      refine And.intro trivial (M_heldAt (s := 7 * x.2.1 + x.1 - 2) (told := p.2.2.1) (by rw [a27, L5, L7, iZ_add, iZ_rem (by constructor <;> omega) (by decide) (by omega) (by decide)]; congr 1; omega) (by rw [a28, L1, iZ_sub]; congr 1; omega) (by omega) aT ?_)
      refine And.intro trivial (M_tk (r := r) (w := 17) rfl rfl (by decide) rr.1 rfl Wz (fun m1 W1 F1 => ?_))
      exact And.intro trivial (k1 m1 (Fz.tr F1) (W1.eq nG_up))
  have k3 : ∀ (mz : Mem), Fr (ARw r) m mz → MRow mz r (upd (upd (upd (upd (upd (upd (upd (fun _ => 0) 13 2) 14 2) 0 1) 1 (iZ x.1)) 2 (iZ x.2.1)) 3 (iZ x.2.2)) 15 (iZ (tldN p.2.2.1 (7 * x.2.1 + x.1 + 1)))) → smE true 151 159 [some (vR (some (23, 231))), some (vI (iZ r)), some (vI (iZ 30)), none] [] mz K := by
    intro mz Fz Wz
    obtain ⟨a27, a28, a29, aT, ao⟩ := v Fz
    refine wp_ok (by decide) OK_151 (cc := cd_151) rfl (stops := [197]) 60 _ _ _ _ ?_
    refine And.intro (by decide) ?_
    refine And.intro (fun u => ?_) (fun u => ?_)
    · rw [a27, L0, iZ_eq (by constructor <;> omega) (by decide)] at u
      refine And.intro trivial (M_heldAt (s := 7 * x.2.1 + x.1 - 1) (told := p.2.2.1) (by rw [a27, L6, L7, iZ_add, iZ_rem (by constructor <;> omega) (by decide) (by omega) (by decide)]; congr 1; omega) (by rw [a28, L0, iZ_sub]; congr 1; omega) (by omega) aT ?_)
      refine And.intro trivial (M_tk (r := r) (w := 16) rfl rfl (by decide) rr.1 rfl Wz (fun m1 W1 F1 => ?_))
      exact And.intro trivial (k2 m1 (Fz.tr F1) W1)
    · rw [a27, L0, iZ_eq (by constructor <;> omega) (by decide)] at u
      refine And.intro trivial (M_heldAt (s := 7 * x.2.1 + x.1 - 1) (told := p.2.2.1) (by rw [a27, L6, L7, iZ_add, iZ_rem (by constructor <;> omega) (by decide) (by omega) (by decide)]; congr 1; omega) (by rw [a28, L1, iZ_sub]; congr 1; omega) (by omega) aT ?_)
      refine And.intro trivial (M_tk (r := r) (w := 16) rfl rfl (by decide) rr.1 rfl Wz (fun m1 W1 F1 => ?_))
      exact And.intro trivial (k2 m1 (Fz.tr F1) W1)
  have k4 : ∀ (mz : Mem), Fr (ARw r) m mz → MRow mz r (upd (upd (upd (upd (upd (upd (fun _ => 0) 13 2) 14 2) 0 1) 1 (iZ x.1)) 2 (iZ x.2.1)) 3 (iZ x.2.2)) → smE true 151 120 [some (vR (some (23, 231))), some (vI (iZ r)), some (vI (iZ 30)), none] [] mz K := by
    intro mz Fz Wz
    obtain ⟨a27, a28, a29, aT, ao⟩ := v Fz
    refine wp_ok (by decide) OK_151 (cc := cd_151) rfl (stops := [159]) 60 _ _ _ _ ?_
    refine And.intro (by decide) ?_
    refine And.intro (fun u => ?_) (fun u => ?_)
    · rw [a27, L6, iZ_eq (by constructor <;> omega) (by decide)] at u
      refine And.intro trivial (M_heldAt (s := 7 * x.2.1 + x.1 + 1) (told := p.2.2.1) (by rw [a27, L1, L7, iZ_add, iZ_rem (by constructor <;> omega) (by decide) (by omega) (by decide)]; congr 1; omega) (by rw [a28, L0, iZ_add]; congr 1; omega) (by omega) aT ?_)
      refine And.intro trivial (M_tk (r := r) (w := 15) rfl rfl (by decide) rr.1 rfl Wz (fun m1 W1 F1 => ?_))
      exact And.intro trivial (k3 m1 (Fz.tr F1) W1)
    · rw [a27, L6, iZ_eq (by constructor <;> omega) (by decide)] at u
      refine And.intro trivial (M_heldAt (s := 7 * x.2.1 + x.1 + 1) (told := p.2.2.1) (by rw [a27, L1, L7, iZ_add, iZ_rem (by constructor <;> omega) (by decide) (by omega) (by decide)]; congr 1; omega) (by rw [a28, L1, iZ_add]; congr 1; omega) (by omega) aT ?_)
      refine And.intro trivial (M_tk (r := r) (w := 15) rfl rfl (by decide) rr.1 rfl Wz (fun m1 W1 F1 => ?_))
      exact And.intro trivial (k3 m1 (Fz.tr F1) W1)
  refine wp_ok (by decide) OK_151 (cc := cd_151) rfl (stops := [120, 235]) 60 _ _ _ _ ?_
  refine And.intro trivial (M_tk (r := r) (w := 0) rfl rfl (by decide) rr.1 rfl hM (fun m1 W1 F1 => ?_))
  refine And.intro trivial (M_tk (r := r) (w := 1) rfl rfl (by decide) rr.1 (v F1).1 W1 (fun m2 W2 F2 => ?_))
  have F2 := F1.tr F2
  refine And.intro trivial (M_tk (r := r) (w := 2) rfl rfl (by decide) rr.1 (v F2).2.1 W2 (fun m3 W3 F3 => ?_))
  have F3 := F2.tr F3
  refine And.intro trivial (M_tk (r := r) (w := 3) rfl rfl (by decide) rr.1 (v F3).2.2.1 W3 (fun m4 W4 F4 => ?_))
  have F4 := F3.tr F4
  refine And.intro (fun u => absurd (v F4).2.2.2.2.1 u) (fun _ => ?_)
  exact And.intro trivial (k4 m4 F4 W4)
theorem nf_76 {e : Int × Nat} (hr : r + 30 ≤ 1634) (f : MFt m e) (he : EOK e) (h : ∀ m', MFt m' e → Fr AML m m' → K none m') : smE true 151 76 [some (vR (some (23, 231))), some (vI (iZ r)), some (vI (iZ 30)), none] [] m K := by
  have hM : MRow m r (fun w => gI m 30 238 (r + w)) := fun w hw => rfl
  have v : ∀ {mz : Mem}, Fr (ARw r) m mz → MFt mz e := fun Fz => ⟨(Fz.2 _ _ _ (by unfold ARw; omega)).trans f.1, (Fz.2 _ _ _ (by unfold ARw; omega)).trans f.2⟩
  refine wp_ok (by decide) OK_151 (cc := cd_151) rfl (stops := [120, 235]) 60 _ _ _ _ ?_
  refine And.intro trivial (M_tk (r := r) (w := 0) rfl rfl (by decide) hr rfl hM (fun m1 W1 F1 => ?_))
  refine And.intro trivial (M_tk (r := r) (w := 1) rfl rfl (by decide) hr rfl W1 (fun m2 W2 F2 => ?_))
  have F2 := F1.tr F2
  refine And.intro trivial (M_tk (r := r) (w := 2) rfl rfl (by decide) hr rfl W2 (fun m3 W3 F3 => ?_))
  have F3 := F2.tr F3
  refine And.intro trivial (M_tk (r := r) (w := 3) rfl rfl (by decide) hr rfl W3 (fun m4 W4 F4 => ?_))
  have F4 := F3.tr F4
  have f4 := v F4
  refine And.intro (fun _ => ?_) (fun u => absurd u (MBad.of f4 he).ne)
  exact And.intro trivial (nl_235 hr f4 he (fun m5 f5 F5 => h m5 f5 ((F4.mono (fun t n k z => ARw_AML z)).tr (F5.mono (fun t n k z => ANb_AML z)))))
theorem M_noteLine (hT : TPOK tp) (hn : n ≤ 800) (hq : q + 3 ≤ p.1.2.1) (hP : POK tp n p q) (h0 : MOk m) (hR : MRS m tp n p.1) (hC : MPC m p) (e26 : gI m 23 231 26 = iZ ls)
    (hF : ∀ m' e, pNote tp n ls p = .inl e → MFt m' e → Fr AML m m' → K none m') (hS : ∀ m' p', pNote tp n ls p = .inr p' → MRS m' tp n p'.1 → MOk m' → MPC m' p' → gI m' 23 231 24 = 1 → Fr AML m m' → K none m') : smC true 151 [vR (some (23, 231))] m K := by
  have hpl := hP.1.2.1
  obtain ⟨ho, hb, hb2⟩ := openB_ok hP (by omega)
  have h5 := hP.2.2.2.2.2.2.2.1
  have htok := openB_tok p
  have s1 := hP.2.2.2.1
  have e0 : gI m 30 238 (0 : Int32).toNatClampNeg = iZ p.2.2.2.1 := hC.2.2.2.1.1
  have rr := rowN_rng s1
  rw [pNote_2] at hF hS
  have main : smE true 151 28 [some (vR (some (23, 231))), none, none, none] [vI (iZ (rowN p.2.2.2.1))] m K := by
    have fin : ∀ (m1 : Mem), MRow m1 (rowN p.2.2.2.1) (fun _ => 0) → Fr (ARw (rowN p.2.2.2.1)) m m1 → smE true 151 52 [some (vR (some (23, 231))), some (vI (iZ (rowN p.2.2.2.1))), some (vI (iZ 30)), none] [] m1 K := by
      intro m1 W1 F1
      have C1 : MPC m1 p := hC.fr F1 (fun t n k z => by unfold ARw; omega) (fun k hk => by unfold ARw; omega) (fun k hk => by unfold ARw; omega)
      have R1 : MRS m1 tp n p.1 := hR.fr F1 (fun n k => by unfold ARw; omega) (fun k hk => by unfold ARw; omega)
      have o1 : MOk m1 := (MOk.fr h0 F1 (by unfold ARw; omega) (by unfold ARw; omega))
      refine wp_ok (by decide) OK_151 (cc := cd_151) rfl (stops := [76]) 60 _ _ _ _ ?_
      refine And.intro trivial (M_opens o1 ⟨hP.1, hP.2.1, hP.2.2.1, hP.2.2.2.mono (by omega)⟩ C1 (fun m2 C2 F2 => ?_))
      have W2 : MRow m2 (rowN p.2.2.2.1) (fun _ => 0) := fun w hw => (F2.2 _ _ _ (by unfold AOp; omega)).trans (W1 w hw)
      have R2 : MRS m2 tp n (openB p).1 := by rw [htok.1]; exact R1.fr F2 (fun n k => by unfold AOp; omega) (fun k hk => by unfold AOp; omega)
      have o2 : MOk m2 := (MOk.fr o1 F2 (by unfold AOp; omega) (by unfold AOp; omega))
      have y26 : gI m2 23 231 26 = iZ ls := (F2.2 _ _ _ (by unfold AOp; omega)).trans ((F1.2 _ _ _ (by unfold ARw; omega)).trans e26)
      have G2 : Fr AML m m2 := (F1.mono (fun t n k z => ARw_AML z)).tr (F2.mono (fun t n k z => AOp_AML z))
      have eN := htok.2.2.2.2.1
      rw [← eN] at rr s1 W2 ⊢
      generalize openB p = o at *
      refine And.intro trivial (M_tk (r := rowN o.2.2.2.1) (w := 13) rfl rfl (by decide) rr.1 rfl W2 (fun m3 W3 F3 => ?_))
      refine And.intro trivial (M_tk (r := rowN o.2.2.2.1) (w := 14) rfl rfl (by decide) rr.1 rfl W3 (fun m4 W4 F4 => ?_))
      have F4 := F3.tr F4
      have C4 : MPC m4 o := C2.fr F4 (fun t n k z => by unfold ARw; omega) (fun k hk => by unfold ARw; omega) (fun k hk => by unfold ARw; omega)
      have R4 : MRS m4 tp n o.1 := R2.fr F4 (fun n k => by unfold ARw; omega) (fun k hk => by unfold ARw; omega)
      have o4 : MOk m4 := (MOk.fr o2 F4 (by unfold ARw; omega) (by unfold ARw; omega))
      have z26 : gI m4 23 231 26 = iZ ls := (F4.2 _ _ _ (by unfold ARw; omega)).trans y26
      have G4 : Fr AML m m4 := G2.tr (F4.mono (fun t n k z => ARw_AML z))
      refine And.intro trivial (M_readsTone o4 C4.1.1 ho.2.1.1 C4.1.2.2 ho.2.2.1 (C4.2.2.1 hb) hT hn ho.1 R4 (fun m5 e h5' f5 F5 => ?_) (fun m5 x told1 t1' h5' R5 o5 T5 y27 y28 y29 F5 => ?_))
      · rw [h5'] at hF
        exact And.intro trivial (nf_76 rr.1 f5 (pPitch_e h5') (fun m6 f6 F6 => hF m6 e rfl f6 ((G4.tr (F5.mono (fun t n k z => AZt_AML z))).tr F6)))
      have a1 := pPitch_ok hT hn ho.1 ho.2.2.1 h5'
      rw [h5'] at hF hS
      simp only at hF hS
      have C5 : MPC m5 (t1', o.2.1, told1, o.2.2.2) := C4.to F5 (fun t n k z => by unfold AZt AWr; omega) (fun k hk => by unfold AZt AWr; omega) (fun k hk => by unfold AZt AWr; omega) T5
      have G5 : Fr AML m m5 := G4.tr (F5.mono (fun t n k z => AZt_AML z))
      exact And.intro trivial (nk_76 (p := (t1', o.2.1, told1, o.2.2.2)) rfl hT hn ⟨a1.2.2.2.1, ho.2.1, a1.2.2.1, ho.2.2.2.mono (by omega)⟩ ⟨hb, hb2⟩ o5 R5 C5 ((F5.2 _ _ _ (by unfold AZt AWr; omega)).trans z26) (W4.fr F5 (fun n k => by unfold AZt AWr; omega)) y27 y28 y29 a1.1 a1.2.1 (fun m6 e h6 f6 F6 => hF m6 e h6 f6 (G5.tr F6)) (fun m6 p6 h6 R6 o6 C6 z6 F6 => hS m6 p6 h6 R6 o6 C6 z6 (G5.tr F6)))
    have loop : ∀ (s j : Nat) (mz : Mem), j + s = 30 → (∀ w, w < j → gI mz 30 238 (rowN p.2.2.2.1 + w) = 0) → Fr (ARw (rowN p.2.2.2.1)) m mz → smE true 151 31 [some (vR (some (23, 231))), some (vI (iZ (rowN p.2.2.2.1))), some (vI (iZ j)), none] [] mz K := by
      intro s
      induction s with
      | zero =>
        intro j mz ej hj Fz
        have ej : j = 30 := by omega
        subst ej
        refine wp1_ok (by decide) OK_151 (cc := cd_151) rfl (stops := [31, 52]) (f := 30) ?_
        refine And.intro (fun _ => And.intro trivial (fin mz hj Fz)) (fun z => absurd (by decide) z)
      | succ s ih =>
        intro j mz ej hj Fz
        have ea : iZ (rowN p.2.2.2.1 : Int) + iZ (j : Int) = iZ ((rowN p.2.2.2.1 + j : Nat) : Int) := by rw [iZ_add]; congr 1
        refine wp1_ok (by decide) OK_151 (cc := cd_151) rfl (stops := [31, 52]) (f := 30) ?_
        refine And.intro (fun z => ?_) (fun _ => ?_)
        · rw [L30, iZ_le (by decide) (by constructor <;> omega)] at z; omega
        refine And.intro (by rw [ea]; exact (iZ_in (by constructor <;> omega)).mpr (by omega)) ?_
        refine And.intro trivial ?_
        rw [ea, iZ_clamp (by constructor <;> omega), show ((rowN p.2.2.2.1 + j : Nat) : Int).toNat = rowN p.2.2.2.1 + j by omega, L1, iZ_add]
        refine ih (j + 1) _ (by omega) (fun w hw => ?_) (Fz.tr (Fr.st ⟨rfl, rfl, by omega, by omega⟩))
        rw [gI_s]
        by_cases e : w = j
        · rw [if_pos ⟨by rw [e], rfl, rfl⟩]
        · rw [if_neg (by omega)]; exact hj w (by omega)
    refine wp_ok (by decide) OK_151 (cc := cd_151) rfl (stops := [31]) 60 _ _ _ _ ?_
    exact And.intro trivial (loop 30 0 m (by omega) (fun w hw => by omega) (Fr.rf _ _))
  refine smC_wp [some (vR (some (23, 231))), none, none, none] cd_151 [28] 60 OK_151 (by decide) rfl rfl (Nat.le_of_ble_eq_true rfl) ?_
  refine And.intro (by rw [L0, iZ_in (by decide)]; decide) ?_
  rw [e0]
  refine And.intro (fun u => ?_) (fun u => ?_)
  · rw [L48, iZ_eq (by constructor <;> omega) (by decide)] at u
    refine And.intro (by rw [L0, iZ_in (by decide)]; decide) ?_
    refine And.intro trivial ?_
    have ev : (4 : Int32) + 30 * gI m 30 238 (0 : Int32).toNatClampNeg = iZ (rowN p.2.2.2.1) := by
      rw [e0, L4, L30, iZ_mul, iZ_add]; congr 1; unfold rowN; rw [if_neg (by omega)]; omega
    rw [ev]; exact main
  · rw [L48, iZ_eq (by constructor <;> omega) (by decide)] at u
    refine And.intro trivial ?_
    have ev : (1604 : Int32) = iZ (rowN p.2.2.2.1) := by unfold rowN; rw [if_pos (by omega)]; rfl
    rw [ev]; exact main
end MNL2
