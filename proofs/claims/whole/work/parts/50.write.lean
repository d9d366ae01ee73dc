/-! writeNote -/
def AN (sc : Nat) (kp : Bool) (i : Nat) : Nat → Nat → Nat → Prop := fun t n k => AW sc kp i t n k ∨ AC sc i t n k ∨ (t = 4 ∧ n = 4 ∧ k = 10) ∨ (t = 17 ∧ n = 26)
/-- what stands in the score's arrays for note i -/
def Res (m : Mem) (sc i : Nat) (n0 n1 : Int) (v : Int × Int × Int) (o a : Int) : Prop :=
  gI m 13 (sc + 2) i = iZ n0 ∧ gI m 14 (sc + 3) i = iZ (n1 - n0) ∧ (gI m 7 (sc + 1) (3 * i) = iZ v.1 ∧ gI m 7 (sc + 1) (3 * i + 1) = iZ v.2.1 ∧ gI m 7 (sc + 1) (3 * i + 2) = iZ v.2.2) ∧ gI m 15 (sc + 4) i = iZ o ∧ gI m 16 (sc + 5) i = iZ a
def v3 (x : Int) (v : Int × Int × Int) : Int := vcN x v.1 + vcN x v.2.1 + vcN x v.2.2
section WRITE
variable {m0 m : Mem} {K : Option SV → Mem → Prop} {sc i nn cap : Nat} {kp : Bool} {pc l a : Int} {s : WS} {tm : Nat → Int} {nx : NX} {f : NF}
theorem RepS.fr {A : Nat → Nat → Nat → Prop} {m' : Mem} {ts : List Tn} {lk : Bool} {cur : Int} (h : RepS m sc kp cap ts lk cur) (hF : Fr A m m') (h6 : ∀ k, k ≤ 9 → ¬ A 6 sc k) (h20 : ∀ n k, ¬ A 20 n k) : RepS m' sc kp cap ts lk cur := by
  obtain ⟨⟨r0, r1, r2, r3, r4⟩, r5, r6⟩ := h
  have g : ∀ k, k ≤ 9 → gI m' 6 sc k = gI m 6 sc k := fun k hk => hF.2 6 sc k (h6 k hk)
  refine ⟨⟨(g 0 (by decide)).trans r0, (g 1 (by decide)).trans r1, (g 6 (by decide)).trans r2, fun hk => ?_, r4⟩, (g 7 (by decide)).trans r5, fun t ht => ⟨(g 8 (by decide)).trans (r6 t ht).1, (g 9 (by decide)).trans (r6 t ht).2⟩⟩
  obtain ⟨a1, a2, a3, a4, r, q1, q2, q3⟩ := r3 hk
  exact ⟨a1, a2, a3, a4, r, RowsOK.kept hF.1 q1, q2, RV_keep (fun x k _ => hF.2 20 x k (h20 x k)) q3⟩
theorem write_note (hf : NOK f) (h1 : f 0 = 1) (hE : EW m0 sc i nn (wT tm pc f) (Pk (tm 3) f)) (hB : EB m0 nn tm pc (f 9) (f 10) (f 12) nx) (hpf : gI m0 8 nn 7 = iZ (f 11)) (hg : ∀ j : Nat, j < ngr f → gI m0 9 (nn + 1) j = iZ (pit (nGr f j).1 (nGr f j).2)) (hL : gI m0 8 nn 2 = iZ (f 5))
    (hC : CW m0 sc i kp cap m0 s (f 5) 0 0 false) (hcap : s.1.length + 73 ≤ cap) (hl : gI m0 6 sc 10 = iZ l) (ha : gI m0 6 sc 11 = iZ a) (h13 : gI m0 13 (sc + 2) i = iZ s.1.length)
    (h : ∀ m', RepS m' sc kp cap (wN tm pc f nx i s).1.1 (wN tm pc f nx i s).1.2.1 (wN tm pc f nx i s).1.2.2 → WOK (wN tm pc f nx i s).1 → Fr (AN sc kp i) m0 m' → Res m' sc i s.1.length (wN tm pc f nx i s).1.1.length (wN tm pc f nx i s).2.1 (wN tm pc f nx i s).2.2.1 (wN tm pc f nx i s).2.2.2 →
      gI m' 6 sc 10 = iZ (l + v3 2 (wN tm pc f nx i s).2.1) → gI m' 6 sc 11 = iZ (a + v3 3 (wN tm pc f nx i s).2.1) → K none m') : smE true 63 201 [some (vR (some (4, 4))), some (vI (iZ i)), none, none] [] m0 K := by
  have hT := hE.Tr
  have hi := hE.ir
  have hL16 := hf.2.2.1
  have hpr := hf.2.2.2.2.2.2.2.2.1
  have hPk := Pk_ok (hold := tm 3) hf h1
  have hgr := (hf.2.2.2.2.2.2.2.2.2.2.2 h1).2.2
  have eN : wN tm pc f nx i s = (let r := wP tm pc f i s; let lf := f 5 - r.2.2.1; let b := wB tm pc f nx r.2.1 lf; let e := behS i (wT tm pc f) (f 12) nx b.2.2 (wC i (Pk (tm 3) f 0) lf b r.2.1); (e.2, (r.1, b.1, e.1), r.2.2.1, r.2.2.2)) := by unfold wN; rw [if_pos h1]
  rw [eN] at h
  have ok1 := preS_ok (i := i) (P := Pk (tm 3) f) (g := nGr f) (ah := tm 2) (qa := decide (qk (tm 0) (f 9) pc (apL (f 5)))) (s := s) hT hL16 hpr
  refine wp_ok (by decide) OK_63 (cc := cd_63) rfl (stops := [205]) 60 _ _ _ _ ?_
  refine And.intro trivial (c_playPrefix (g := nGr f) (qa := decide (qk (tm 0) (f 9) pc (apL (f 5)))) hE hB hpf hpr (fun j q1 q2 q3 => ?_) (by simp) hL (by omega) hC (by omega) (fun m1 C1 => ?_))
  · have hj : j < ngr f := by
      unfold ngr
      by_cases h5 : f 11 = 5
      · rw [if_pos h5]; exact q2 h5
      · rw [if_neg h5, if_neg q3]; omega
    refine ⟨hg j hj, ?_⟩
    have := hgr j hj
    have hb := bsN_rng ((7 * f (22 + j) + f (18 + j)) % 7) (m7 _)
    have hn : natN (7 * f (22 + j) + f (18 + j)) = 12 * (f (22 + j) + 1) + bsN ((7 * f (22 + j) + f (18 + j)) % 7) := by unfold natN; rw [show (7 * f (22 + j) + f (18 + j)) / 7 = f (22 + j) by omega]
    unfold nGr okP
    simp only
    omega
  refine And.intro trivial ?_
  change smE true 63 205 [some (vR (some (4, 4))), some (vI (iZ i)), none, none] [vI (iZ (wP tm pc f i s).1)] m1 K
  change CW m0 sc i kp cap m1 (wP tm pc f i s).2.1 (f 5 - (wP tm pc f i s).2.2.1) (wP tm pc f i s).2.2.1 (wP tm pc f i s).2.2.2 false at C1
  change (0 ≤ (wP tm pc f i s).1 ∧ (wP tm pc f i s).1 ≤ 3) ∧ (wP tm pc f i s).2.1.1.length ≤ s.1.length + 4 ∧ 0 ≤ (wP tm pc f i s).2.2.1 ∧ 8 ≤ f 5 - (wP tm pc f i s).2.2.1 at ok1
  generalize er : wP tm pc f i s = r at *
  obtain ⟨rv, rs, ro, ra⟩ := r
  simp only at C1 ok1 h
  refine wp1_ok (by decide) OK_63 (cc := cd_63) rfl (stops := [210]) (f := 30) ?_
  have ok2 : bOK (wB tm pc f nx rs (f 5 - ro)) := bodS_ok (by omega)
  refine And.intro trivial (c_playBody hE hB (bu := decide (buP (Pk (tm 3) f) rs (tm 6))) (af := afB (Pk (tm 3) f) (f 12) (tm 4) nx) (sty := decide (tm 6 = 1)) (q4 := decide (qk (tm 0) (f 9) pc ((f 5 - ro) / 4))) (q8 := decide (qk (tm 0) (f 9) pc ((f 5 - ro) / 8))) (by simp) afB_iff (by simp) (by simp) (by simp) (by omega) C1 (by omega) (fun m2 lf' q C2 => ?_))
  refine And.intro trivial ?_
  change smE true 63 210 [some (vR (some (4, 4))), some (vI (iZ i)), some (vI (iZ rv)), none] [vI (iZ (wB tm pc f nx rs (f 5 - ro)).1)] m2 K
  change CW m0 sc i kp cap m2 (apN i (wB tm pc f nx rs (f 5 - ro)).2.1 rs) lf' ro ra (wB tm pc f nx rs (f 5 - ro)).2.2 at C2
  change (wB tm pc f nx rs (f 5 - ro)).1 = 3 ∨ (wB tm pc f nx rs (f 5 - ro)).1 = 0 → lf' = f 5 - ro at q
  have ok3 := wC_ok (i := i) (p := Pk (tm 3) f 0) (lf := f 5 - ro) (s := rs) ok2
  have ok4 := behS_ok (i := i) (T := wT tm pc f) (bh := f 12) (nx := nx) (ab := (wB tm pc f nx rs (f 5 - ro)).2.2) (s := wC i (Pk (tm 3) f 0) (f 5 - ro) (wB tm pc f nx rs (f 5 - ro)) rs)
  generalize eb : wB tm pc f nx rs (f 5 - ro) = b at *
  have rb : 0 ≤ b.1 ∧ b.1 ≤ 3 := by rcases ok2.2 with ⟨z, _⟩ | ⟨z, _⟩ <;> omega
  have fin : ∀ m3 lf3, CW m0 sc i kp cap m3 (wC i (Pk (tm 3) f 0) (f 5 - ro) b rs) lf3 ro ra b.2.2 → smE true 63 229 [some (vR (some (4, 4))), some (vI (iZ i)), some (vI (iZ rv)), some (vI (iZ b.1))] [] m3 K := by
    intro m3 lf3 C3
    refine wp_ok (by decide) OK_63 (cc := cd_63) rfl (stops := []) 60 _ _ _ _ ?_
    refine Exists.intro _ (And.intro (rdS hE C3) ?_)
    refine And.intro trivial (c_playBehind hE hB C3 ok3.1 (by omega) (fun m4 C4 => ?_))
    generalize ee : behS i (wT tm pc f) (f 12) nx b.2.2 (wC i (Pk (tm 3) f 0) (f 5 - ro) b rs) = e at *
    refine And.intro trivial (c_close rfl rfl rfl rfl hi ok1.1 rb ok4.1 ((C4.2.2.2.2 6 sc 10 (by unfold AW; omega)).trans hl) ((C4.2.2.2.2 6 sc 11 (by unfold AW; omega)).trans ha) C4.1.1.2.1 ((C4.2.2.2.2 13 (sc + 2) i (by unfold AW; omega)).trans h13) (fun m5 F5 c1 c2 c3 c4 c5 c6 => ?_))
    refine And.intro trivial (h m5 (C4.1.fr F5 (fun k hk => by unfold AC; omega) (fun n k => by unfold AC; omega)) C4.2.2.1 ?_ ⟨?_, c1, ⟨c2, c3, c4⟩, ?_, ?_⟩ c5 c6)
    · exact (C4.2.2.2.mono (fun t n k z => Or.inl z)).tr (F5.mono (fun t n k z => Or.inr (Or.inl z)))
    · rw [F5.2 13 (sc + 2) i (by unfold AC; omega)]; exact (C4.2.2.2.2 13 (sc + 2) i (by unfold AW; omega)).trans h13
    · rw [F5.2 15 (sc + 4) i (by unfold AC; omega)]; exact C4.2.1.2.1
    · rw [F5.2 16 (sc + 5) i (by unfold AC; omega)]; exact C4.2.1.2.2.1
  have pl : b.1 = 0 ∨ b.1 = 3 → smE true 63 220 [some (vR (some (4, 4))), some (vI (iZ i)), some (vI (iZ rv)), some (vI (iZ b.1))] [] m2 K := by
    intro z
    have el : lf' = f 5 - ro := q (by omega)
    have e2 : b.2.1 = [] := by rcases ok2.2 with ⟨w, _⟩ | ⟨_, w⟩; omega; exact w
    refine wp_ok (by decide) OK_63 (cc := cd_63) rfl (stops := [229]) 60 _ _ _ _ ?_
    refine And.intro trivial (c_play hE L0 C2.2.1.1 (by decide) C2 (by omega) (by rw [apN_len, e2]; simp only [List.length_nil]; omega) (fun m3 C3 => ?_))
    refine And.intro trivial (fin m3 lf' ?_)
    unfold wC
    rw [if_pos z, ← el]
    exact C3
  have np : ¬ (b.1 = 0 ∨ b.1 = 3) → smE true 63 229 [some (vR (some (4, 4))), some (vI (iZ i)), some (vI (iZ rv)), some (vI (iZ b.1))] [] m2 K := by
    intro z
    refine fin m2 lf' ?_
    unfold wC
    rw [if_neg z]
    exact C2
  refine wp1_ok (by decide) OK_63 (cc := cd_63) rfl (stops := [220, 229]) (f := 30) ?_
  refine And.intro (fun z => ?_) (fun z => ?_)
  · rw [L0, iZ_eq (by constructor <;> omega) (by decide)] at z
    exact And.intro trivial (pl (Or.inl z))
  · rw [L0, iZ_eq (by constructor <;> omega) (by decide)] at z
    refine And.intro (fun y => ?_) (fun y => ?_)
    · rw [L3, iZ_eq (by constructor <;> omega) (by decide)] at y
      exact And.intro trivial (np (by omega))
    · rw [L3, iZ_eq (by constructor <;> omega) (by decide)] at y
      exact And.intro trivial (pl (Or.inr y))
end WRITE
