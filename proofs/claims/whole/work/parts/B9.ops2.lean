/-! body, sign, bare, after: the class -/
def bdS (D : Dt) (i kd : Int) : Int × Dt := if isN D i then (if 0 ≤ kd ∧ kd ≤ 8 then (D.2.1 i.toNat 10, edD D i.toNat (bdF (D.2.1 i.toNat) kd)) else (-3, D)) else (-2, D)
def sgW (up : Int) : Nat := if up = 1 then 13 else 14
def sgS (D : Dt) (i up s : Int) : Int × Dt := if isN D i then (if (0 ≤ up ∧ up ≤ 1) ∧ (-1 ≤ s ∧ s ≤ 2) then (if D.2.1 i.toNat 10 = 0 then (-5, D) else (D.2.1 i.toNat (sgW up), edD D i.toNat (upq (D.2.1 i.toNat) (sgW up) s))) else (-3, D)) else (-2, D)
def brS (D : Dt) (i : Int) : Int × Dt := if isN D i then (if D.2.1 i.toNat 11 = 5 then 1 else if D.2.1 i.toNat 11 = 6 then 2 else D.2.1 i.toNat 11, edD D i.toNat (upq (D.2.1 i.toNat) 11 0)) else (-2, D)
def afS (D : Dt) (i s : Int) : Int × Dt := if isN D i then (if 0 ≤ s ∧ s ≤ 2 then (if s = 1 ∧ ¬ (D.2.1 i.toNat 10 = 1 ∨ D.2.1 i.toNat 10 = 8) then (-5, D) else (D.2.1 i.toNat 12, edD D i.toNat (upq (D.2.1 i.toNat) 12 s))) else (-3, D)) else (-2, D)
theorem upq_same {f : NF} {k : Nat} {v : Int} (hk : 10 ≤ k ∧ k ≤ 14) : ∀ w, w ≠ 10 → w ≠ 11 → w ≠ 12 → w ≠ 13 → w ≠ 14 → upq f k v w = f w := fun w h1 h2 h3 h4 h5 => upq_n (by omega)
theorem bdF_same {f : NF} {kd : Int} : ∀ w, w ≠ 10 → w ≠ 11 → w ≠ 12 → w ≠ 13 → w ≠ 14 → bdF f kd w = f w := fun w h1 h2 h3 h4 h5 => by
  unfold bdF; rw [if_neg h1, if_neg (by omega), if_neg h3]
theorem ngr_11 {f f' : NF} (h : f' 11 = f 11) : ngr f' ≤ ngr f := by unfold ngr; rw [h]; exact Nat.le_refl _
theorem ngr_0 {f f' : NF} (h : f' 11 = 0) : ngr f' ≤ ngr f := by unfold ngr; rw [h]; simp
theorem bdF_ok {f : NF} {kd : Int} (h : NOK f) (h1 : f 0 = 1) (hk : 0 ≤ kd ∧ kd ≤ 8) : NOK (bdF f kd) := by
  refine h.ed h1 bdF_same hk h.2.2.2.2.2.2.2.2.1 ?_ (by show (-1 : Int) ≤ 2 ∧ (2 : Int) ≤ 2; decide) (by show (-1 : Int) ≤ 2 ∧ (2 : Int) ≤ 2; decide) (ngr_11 rfl)
  have := h.2.2.2.2.2.2.2.2.2.1
  show 0 ≤ (if f 12 = 1 ∧ ¬ (kd = 1 ∨ kd = 8) then 0 else f 12) ∧ (if f 12 = 1 ∧ ¬ (kd = 1 ∨ kd = 8) then 0 else f 12) ≤ 2
  split <;> omega
theorem NOK.sg {f : NF} (h : NOK f) (h1 : f 0 = 1) : sgOK (f 13) ∧ sgOK (f 14) := ⟨(h.2.2.2.2.2.2.2.2.2.2.2 h1).2.1.1, (h.2.2.2.2.2.2.2.2.2.2.2 h1).2.1.2.1⟩
theorem sgF_ok {f : NF} {up s : Int} (h : NOK f) (h1 : f 0 = 1) (hs : -1 ≤ s ∧ s ≤ 2) : NOK (upq f (sgW up) s) := by
  have g := h.sg h1
  unfold sgW
  split
  · exact h.ed h1 (upq_same (by decide)) h.2.2.2.2.2.2.2.1 h.2.2.2.2.2.2.2.2.1 h.2.2.2.2.2.2.2.2.2.1 hs g.2 (ngr_11 rfl)
  · exact h.ed h1 (upq_same (by decide)) h.2.2.2.2.2.2.2.1 h.2.2.2.2.2.2.2.2.1 h.2.2.2.2.2.2.2.2.2.1 g.1 hs (ngr_11 rfl)
theorem brF_ok {f : NF} (h : NOK f) (h1 : f 0 = 1) : NOK (upq f 11 0) := by
  have g := h.sg h1
  exact h.ed h1 (upq_same (by decide)) h.2.2.2.2.2.2.2.1 (by show (0 : Int) ≤ 0 ∧ (0 : Int) ≤ 6; decide) h.2.2.2.2.2.2.2.2.2.1 g.1 g.2 (ngr_0 rfl)
theorem afF_ok {f : NF} {s : Int} (h : NOK f) (h1 : f 0 = 1) (hs : 0 ≤ s ∧ s ≤ 2) : NOK (upq f 12 s) := by
  have g := h.sg h1
  exact h.ed h1 (upq_same (by decide)) h.2.2.2.2.2.2.2.1 h.2.2.2.2.2.2.2.2.1 hs g.1 g.2 (ngr_11 rfl)
theorem SI.nok {tp : Nat → Int} {td : Nat} {tm : Nat → Int} {D : Dt} {i : Int} (h : SI tp td tm D) (hi : isN D i) : NOK (D.2.1 i.toNat) ∧ i.toNat < D.1 := ⟨h.dok.2.1 _ (by have := hi.1; have := hi.2.1; omega), by have := hi.1; have := hi.2.1; omega⟩
theorem bdS_ok {tp : Nat → Int} {td : Nat} {tm : Nat → Int} {D : Dt} {i kd : Int} (h : SI tp td tm D) : SI tp td tm (bdS D i kd).2 := by
  unfold bdS
  split
  · rename_i hi
    have hn := h.nok hi
    split
    · rename_i hk
      exact h.ed hn.2 (bdF_ok hn.1 hi.2.2 hk) rfl rfl rfl rfl
    · exact h
  · exact h
theorem sgS_ok {tp : Nat → Int} {td : Nat} {tm : Nat → Int} {D : Dt} {i up s : Int} (h : SI tp td tm D) : SI tp td tm (sgS D i up s).2 := by
  unfold sgS
  split
  · rename_i hi
    have hn := h.nok hi
    split
    · rename_i hk
      split
      · exact h
      · have u : ∀ w, w < 10 → upq (D.2.1 i.toNat) (sgW up) s w = D.2.1 i.toNat w := fun w hw => upq_n (by unfold sgW; split <;> omega)
        exact h.ed hn.2 (sgF_ok hn.1 hi.2.2 hk.2) (u 4 (by decide)) (u 5 (by decide)) (u 6 (by decide)) (u 7 (by decide))
    · exact h
  · exact h
theorem brS_ok {tp : Nat → Int} {td : Nat} {tm : Nat → Int} {D : Dt} {i : Int} (h : SI tp td tm D) : SI tp td tm (brS D i).2 := by
  unfold brS
  split
  · rename_i hi
    have hn := h.nok hi
    exact h.ed hn.2 (brF_ok hn.1 hi.2.2) rfl rfl rfl rfl
  · exact h
theorem afS_ok {tp : Nat → Int} {td : Nat} {tm : Nat → Int} {D : Dt} {i s : Int} (h : SI tp td tm D) : SI tp td tm (afS D i s).2 := by
  unfold afS
  split
  · rename_i hi
    have hn := h.nok hi
    split
    · rename_i hk
      split
      · exact h
      · exact h.ed hn.2 (afF_ok hn.1 hi.2.2 hk) rfl rfl rfl rfl
    · exact h
  · exact h
section OPS2
variable {m m' : Mem} {K : Option SV → Mem → Prop} {tp : Nat → Int} {td : Nat} {fl : Int × Int} {tm : Nat → Int} {D : Dt} {a sa sb j : Nat} {st : Bool} {f f' : NF} {i : Int}
theorem CJ.note (h : CJ m tp td fl tm D a sa sb j st) {i : Nat} (hi : i < D.1) : NRep m (sa + 1 + 2 + 2 * i) (D.2.1 i) := h.2.2.2.2.1.2.2.2.1.2.1 i hi
theorem CJ.srep (h : CJ m tp td fl tm D a sa sb j st) : SRep m sa D := h.2.2.2.2.1.2.2.2.1
theorem C_body {kd : Int} {x y : Int32} (hx : x = iZ i) (hy : y = iZ kd) (ri : R32 i) (rk : R32 kd) (hS : SI tp td tm D) (h : CJ m tp td fl tm D a sa sb j st)
    (hk : ∀ m', CI m' tp td fl tm (bdS D i kd).2 a → FC m m' → K (some (vI (iZ (bdS D i kd).1))) m') : smC true 100 [vR (some (0, 0)), vI x, vI y] m K := by
  subst hx; subst hy
  unfold bdS at hk
  refine smC_wp [some (vR (some (0, 0))), some (vI (iZ i)), some (vI (iZ kd)), none, none] cd_100 [] 60 OK_100 (by decide) rfl rfl (Nat.le_of_ble_eq_true rfl) ?_
  refine Exists.intro _ (And.intro h.1.2.1 ?_)
  refine And.intro trivial (c_playedNote rfl ri hS.dok h.srep (fun q1 q2 => ?_) (fun q => ?_))
  rotate_left
  · rw [if_neg q] at hk
    exact And.intro trivial (hk m ⟨sa, sb, j, st, h⟩ (FC.rf _))
  have hN : isN D i := ⟨q1.1, q1.2, q2⟩
  rw [if_pos hN] at hk
  have hn := hS.nok hN
  have hR := h.note hn.2
  refine And.intro trivial (c_isBody rk (fun z => ?_) (fun z => ?_))
  rotate_left
  · rw [if_neg z] at hk
    refine And.intro (fun z => absurd rfl z) (fun _ => ?_)
    exact And.intro trivial (hk m ⟨sa, sb, j, st, h⟩ (FC.rf _))
  rw [if_pos z] at hk
  refine And.intro (fun _ => ?_) (fun z => absurd z (by decide))
  have r12 := hn.1.2.2.2.2.2.2.2.2.2.1
  refine And.intro trivial (c_putBody (bh := D.2.1 i.toNat 12) rfl rk (by constructor <;> omega) hR.1.2.2.2.2.2.2.2.2.2 (fun m1 y9 y10 y11 y12 F1 => ?_))
  refine And.intro (Or.inr rfl) ?_
  refine And.intro trivial ?_
  rw [hR.1.2.2.2.2.2.2.2.2.1]
  have FA : Fr (AEd (sa + 1 + 2 + 2 * i.toNat)) m (sI m1 4 4 3 1) := (F1.mono (fun t n k z => Or.inl ⟨z.1, z.2.1, by omega⟩)).tr (Fr.st (Or.inr ⟨rfl, rfl, rfl⟩))
  have e3 : gI (sI m1 4 4 3 1) 4 4 3 = 1 := by rw [gI_s, if_pos ⟨rfl, rfl, rfl⟩]
  have g : ∀ {t n k : Nat}, t ≠ 4 → gI (sI m1 4 4 3 1) t n k = gI m1 t n k := fun u => by rw [gI_s, if_neg (by omega)]
  generalize sI m1 4 4 3 1 = m2 at *
  have hN2 : NRep m2 (sa + 1 + 2 + 2 * i.toNat) (bdF (D.2.1 i.toNat) kd) := hR.ed q2 FA bdF_same ((g (by omega)).trans ((F1.2 _ _ _ (by omega)).trans hR.1.2.2.2.2.2.2.2.1)) ((g (by omega)).trans y9) ((g (by omega)).trans y10) ((g (by omega)).trans y11) ((g (by omega)).trans y12) (ngr_11 rfl)
  exact hk m2 ⟨sa, sb, j, true, CJ.ed hS h hn.2 (bdF_ok hn.1 q2 z) FA hN2 e3⟩ (fun t n k u1 u2 u3 => FA.2 _ _ _ (by unfold AEd; omega))
theorem C_sign {up s : Int} {x y w : Int32} (hx : x = iZ i) (hy : y = iZ up) (hw : w = iZ s) (ri : R32 i) (ru : R32 up) (rs : R32 s) (hS : SI tp td tm D) (h : CJ m tp td fl tm D a sa sb j st)
    (hk : ∀ m', CI m' tp td fl tm (sgS D i up s).2 a → FC m m' → K (some (vI (iZ (sgS D i up s).1))) m') : smC true 102 [vR (some (0, 0)), vI x, vI y, vI w] m K := by
  subst hx; subst hy; subst hw
  unfold sgS at hk
  refine smC_wp [some (vR (some (0, 0))), some (vI (iZ i)), some (vI (iZ up)), some (vI (iZ s)), none, none] cd_102 [18] 60 OK_102 (by decide) rfl rfl (Nat.le_of_ble_eq_true rfl) ?_
  refine Exists.intro _ (And.intro h.1.2.1 ?_)
  refine And.intro trivial (c_playedNote rfl ri hS.dok h.srep (fun q1 q2 => ?_) (fun q => ?_))
  rotate_left
  · rw [if_neg q] at hk
    exact And.intro trivial (hk m ⟨sa, sb, j, st, h⟩ (FC.rf _))
  have hN : isN D i := ⟨q1.1, q1.2, q2⟩
  rw [if_pos hN] at hk
  have hn := hS.nok hN
  have hR := h.note hn.2
  have r10 := hn.1.2.2.2.2.2.2.2.1
  refine And.intro trivial ?_
  have cant : ¬ ((0 ≤ up ∧ up ≤ 1) ∧ (-1 ≤ s ∧ s ≤ 2)) → smE true 102 37 [some (vR (some (0, 0))), some (vI (iZ i)), some (vI (iZ up)), some (vI (iZ s)), some (vR (some (8, sa + 1 + 2 + 2 * i.toNat))), none] [] m K := by
    intro z
    rw [if_neg z] at hk
    refine wp_ok (by decide) OK_102 (cc := cd_102) rfl (stops := []) 20 _ _ _ _ ?_
    exact And.intro trivial (hk m ⟨sa, sb, j, st, h⟩ (FC.rf _))
  refine wp1_ok (by decide) OK_102 (cc := cd_102) rfl (stops := [37, 51]) (f := 60) ?_
  refine And.intro (fun z => ?_) (fun z => ?_)
  · rw [L0, iZ_lt ru (by decide)] at z
    exact And.intro trivial (cant (by omega))
  rw [L0, iZ_lt ru (by decide)] at z
  refine And.intro (fun y => ?_) (fun y => ?_)
  · rw [L1, iZ_lt (by decide) ru] at y
    exact And.intro trivial (cant (by omega))
  rw [L1, iZ_lt (by decide) ru] at y
  refine And.intro (fun u => ?_) (fun u => ?_)
  · rw [LM1, iZ_lt rs (by decide)] at u
    exact And.intro trivial (cant (by omega))
  rw [LM1, iZ_lt rs (by decide)] at u
  refine And.intro (fun v => ?_) (fun v => ?_)
  rotate_left
  · rw [L2, iZ_le rs (by decide)] at v
    exact And.intro trivial (cant (by omega))
  rw [L2, iZ_le rs (by decide)] at v
  have hr : (0 ≤ up ∧ up ≤ 1) ∧ (-1 ≤ s ∧ s ≤ 2) := by omega
  rw [if_pos hr] at hk
  refine And.intro (fun w => ?_) (fun w => ?_)
  rotate_left
  · rw [hR.1.2.2.2.2.2.2.2.2.1, L0, iZ_eq (by constructor <;> omega) (by decide)] at w
    rw [if_pos w] at hk
    exact And.intro trivial (hk m ⟨sa, sb, j, st, h⟩ (FC.rf _))
  rw [hR.1.2.2.2.2.2.2.2.2.1, L0, iZ_eq (by constructor <;> omega) (by decide)] at w
  rw [if_neg w] at hk
  have hR2 := (hR.2 q2).1
  have fin : ∀ (kk : Nat) (m2 : Mem), (up = 1 ∧ kk = 10 ∨ ¬ up = 1 ∧ kk = 11) → m2 = sI (sI m 8 (sa + 1 + 2 + 2 * i.toNat) kk (iZ s)) 4 4 3 1 → K (some (vI (iZ (D.2.1 i.toNat (sgW up))))) m2 := by
    intro kk m2 hkk e2
    have FA : Fr (AEd (sa + 1 + 2 + 2 * i.toNat)) m m2 := by rw [e2]; exact (Fr.st (Or.inl ⟨rfl, rfl, by omega⟩)).tr (Fr.st (Or.inr ⟨rfl, rfl, rfl⟩))
    have e3 : gI m2 4 4 3 = 1 := by rw [e2, gI_s, if_pos ⟨rfl, rfl, rfl⟩]
    have g : ∀ {k : Nat}, k ≠ kk → gI m2 8 (sa + 1 + 2 + 2 * i.toNat) k = gI m 8 (sa + 1 + 2 + 2 * i.toNat) k := fun u => by rw [e2, gI_s, if_neg (by omega), gI_s, if_neg (by omega)]
    have gk : gI m2 8 (sa + 1 + 2 + 2 * i.toNat) kk = iZ s := by rw [e2, gI_s, if_neg (by omega), gI_s, if_pos ⟨rfl, rfl, rfl⟩]
    have hN2 : NRep m2 (sa + 1 + 2 + 2 * i.toNat) (upq (D.2.1 i.toNat) (sgW up) s) := by
      rcases hkk with ⟨hu, rfl⟩ | ⟨hu, rfl⟩
      · have es : sgW up = 13 := by unfold sgW; rw [if_pos hu]
        rw [es]
        exact hR.ed q2 FA (upq_same (by decide)) ((g (by decide)).trans hR.1.2.2.2.2.2.2.2.1) ((g (by decide)).trans hR.1.2.2.2.2.2.2.2.2.1) gk ((g (by decide)).trans hR2.2.1) ((g (by decide)).trans hR.1.2.2.2.2.2.2.2.2.2) (ngr_11 rfl)
      · have es : sgW up = 14 := by unfold sgW; rw [if_neg hu]
        rw [es]
        exact hR.ed q2 FA (upq_same (by decide)) ((g (by decide)).trans hR.1.2.2.2.2.2.2.2.1) ((g (by decide)).trans hR.1.2.2.2.2.2.2.2.2.1) ((g (by decide)).trans hR2.1) gk ((g (by decide)).trans hR.1.2.2.2.2.2.2.2.2.2) (ngr_11 rfl)
    exact hk m2 ⟨sa, sb, j, true, CJ.ed hS h hn.2 (sgF_ok hn.1 q2 hr.2) FA hN2 e3⟩ (fun t n k u1 u2 u3 => FA.2 _ _ _ (by unfold AEd; omega))
  refine And.intro trivial ?_
  refine wp1_ok (by decide) OK_102 (cc := cd_102) rfl (stops := []) (f := 60) ?_
  refine And.intro (fun o => ?_) (fun o => ?_)
  · rw [L1, iZ_eq ru (by decide)] at o
    refine And.intro (fun _ => ?_) (fun o' => ?_)
    rotate_left
    · rw [L1, iZ_eq ru (by decide)] at o'; omega
    refine And.intro (Or.inr rfl) ?_
    refine And.intro trivial ?_
    have := fin 11 _ (Or.inr ⟨o, rfl⟩) rfl
    rw [hR2.2.1]
    have es : sgW up = 14 := by unfold sgW; rw [if_neg o]
    rw [es] at this
    exact this
  · rw [L1, iZ_eq ru (by decide)] at o
    refine And.intro (fun o' => ?_) (fun _ => ?_)
    · rw [L1, iZ_eq ru (by decide)] at o'; omega
    refine And.intro (Or.inr rfl) ?_
    refine And.intro trivial ?_
    have := fin 10 _ (Or.inl ⟨o, rfl⟩) rfl
    rw [hR2.1]
    have es : sgW up = 13 := by unfold sgW; rw [if_pos o]
    rw [es] at this
    exact this
theorem C_bare {x : Int32} (hx : x = iZ i) (ri : R32 i) (hS : SI tp td tm D) (h : CJ m tp td fl tm D a sa sb j st)
    (hk : ∀ m', CI m' tp td fl tm (brS D i).2 a → FC m m' → K (some (vI (iZ (brS D i).1))) m') : smC true 103 [vR (some (0, 0)), vI x] m K := by
  subst hx
  unfold brS at hk
  refine smC_wp [some (vR (some (0, 0))), some (vI (iZ i)), none, none] cd_103 [34] 60 OK_103 (by decide) rfl rfl (Nat.le_of_ble_eq_true rfl) ?_
  refine Exists.intro _ (And.intro h.1.2.1 ?_)
  refine And.intro trivial (c_playedNote rfl ri hS.dok h.srep (fun q1 q2 => ?_) (fun q => ?_))
  rotate_left
  · rw [if_neg q] at hk
    exact And.intro trivial (hk m ⟨sa, sb, j, st, h⟩ (FC.rf _))
  have hN : isN D i := ⟨q1.1, q1.2, q2⟩
  rw [if_pos hN] at hk
  have hn := hS.nok hN
  have hR := h.note hn.2
  have hR2 := (hR.2 q2).1
  have r11 := hn.1.2.2.2.2.2.2.2.2.1
  refine And.intro (Or.inr rfl) ?_
  refine And.intro trivial ?_
  rw [hR.1.2.2.2.2.2.2.2.1]
  have FA : Fr (AEd (sa + 1 + 2 + 2 * i.toNat)) m (sI (sI m 8 (sa + 1 + 2 + 2 * i.toNat) 7 0) 4 4 3 1) := (Fr.st (Or.inl ⟨rfl, rfl, by omega⟩)).tr (Fr.st (Or.inr ⟨rfl, rfl, rfl⟩))
  have e3 : gI (sI (sI m 8 (sa + 1 + 2 + 2 * i.toNat) 7 0) 4 4 3 1) 4 4 3 = 1 := by rw [gI_s, if_pos ⟨rfl, rfl, rfl⟩]
  have g : ∀ {k : Nat}, k ≠ 7 → gI (sI (sI m 8 (sa + 1 + 2 + 2 * i.toNat) 7 0) 4 4 3 1) 8 (sa + 1 + 2 + 2 * i.toNat) k = gI m 8 (sa + 1 + 2 + 2 * i.toNat) k := fun u => by rw [gI_s, if_neg (by omega), gI_s, if_neg (by omega)]
  have gk : gI (sI (sI m 8 (sa + 1 + 2 + 2 * i.toNat) 7 0) 4 4 3 1) 8 (sa + 1 + 2 + 2 * i.toNat) 7 = iZ 0 := by rw [gI_s, if_neg (by omega), gI_s, if_pos ⟨rfl, rfl, rfl⟩]; rfl
  generalize sI (sI m 8 (sa + 1 + 2 + 2 * i.toNat) 7 0) 4 4 3 1 = m2 at *
  have hN2 : NRep m2 (sa + 1 + 2 + 2 * i.toNat) (upq (D.2.1 i.toNat) 11 0) := hR.ed q2 FA (upq_same (by decide)) gk ((g (by decide)).trans hR.1.2.2.2.2.2.2.2.2.1) ((g (by decide)).trans hR2.1) ((g (by decide)).trans hR2.2.1) ((g (by decide)).trans hR.1.2.2.2.2.2.2.2.2.2) (ngr_0 rfl)
  have hk := hk m2 ⟨sa, sb, j, true, CJ.ed hS h hn.2 (brF_ok hn.1 q2) FA hN2 e3⟩ (fun t n k u1 u2 u3 => FA.2 _ _ _ (by unfold AEd; omega))
  simp only at hk
  refine wp1_ok (by decide) OK_103 (cc := cd_103) rfl (stops := []) (f := 60) ?_
  refine And.intro (fun o => ?_) (fun o => ?_)
  rotate_left
  · rw [L5, iZ_eq (by constructor <;> omega) (by decide)] at o
    rw [if_pos o] at hk
    exact And.intro trivial hk
  rw [L5, iZ_eq (by constructor <;> omega) (by decide)] at o
  rw [if_neg o] at hk
  refine And.intro (fun p => ?_) (fun p => ?_)
  · rw [L6, iZ_eq (by constructor <;> omega) (by decide)] at p
    rw [if_neg p] at hk
    exact And.intro trivial hk
  · rw [L6, iZ_eq (by constructor <;> omega) (by decide)] at p
    rw [if_pos p] at hk
    exact And.intro trivial hk
theorem C_after {s : Int} {x y : Int32} (hx : x = iZ i) (hy : y = iZ s) (ri : R32 i) (rs : R32 s) (hS : SI tp td tm D) (h : CJ m tp td fl tm D a sa sb j st)
    (hk : ∀ m', CI m' tp td fl tm (afS D i s).2 a → FC m m' → K (some (vI (iZ (afS D i s).1))) m') : smC true 104 [vR (some (0, 0)), vI x, vI y] m K := by
  subst hx; subst hy
  unfold afS at hk
  refine smC_wp [some (vR (some (0, 0))), some (vI (iZ i)), some (vI (iZ s)), none, none] cd_104 [16] 60 OK_104 (by decide) rfl rfl (Nat.le_of_ble_eq_true rfl) ?_
  refine Exists.intro _ (And.intro h.1.2.1 ?_)
  refine And.intro trivial (c_playedNote rfl ri hS.dok h.srep (fun q1 q2 => ?_) (fun q => ?_))
  rotate_left
  · rw [if_neg q] at hk
    exact And.intro trivial (hk m ⟨sa, sb, j, st, h⟩ (FC.rf _))
  have hN : isN D i := ⟨q1.1, q1.2, q2⟩
  rw [if_pos hN] at hk
  have hn := hS.nok hN
  have hR := h.note hn.2
  have hR2 := (hR.2 q2).1
  have r10 := hn.1.2.2.2.2.2.2.2.1
  refine And.intro trivial ?_
  have cant : ¬ (0 ≤ s ∧ s ≤ 2) → smE true 104 25 [some (vR (some (0, 0))), some (vI (iZ i)), some (vI (iZ s)), some (vR (some (8, sa + 1 + 2 + 2 * i.toNat))), none] [] m K := by
    intro z
    rw [if_neg z] at hk
    refine wp_ok (by decide) OK_104 (cc := cd_104) rfl (stops := []) 20 _ _ _ _ ?_
    exact And.intro trivial (hk m ⟨sa, sb, j, st, h⟩ (FC.rf _))
  refine wp1_ok (by decide) OK_104 (cc := cd_104) rfl (stops := [25, 46]) (f := 60) ?_
  refine And.intro (fun z => ?_) (fun z => ?_)
  · rw [L0, iZ_lt rs (by decide)] at z
    exact And.intro trivial (cant (by omega))
  rw [L0, iZ_lt rs (by decide)] at z
  refine And.intro (fun v => ?_) (fun v => ?_)
  rotate_left
  · rw [L2, iZ_le rs (by decide)] at v
    exact And.intro trivial (cant (by omega))
  rw [L2, iZ_le rs (by decide)] at v
  have hr : 0 ≤ s ∧ s ≤ 2 := by omega
  rw [if_pos hr] at hk
  have good : ¬ (s = 1 ∧ ¬ (D.2.1 i.toNat 10 = 1 ∨ D.2.1 i.toNat 10 = 8)) → smE true 104 46 [some (vR (some (0, 0))), some (vI (iZ i)), some (vI (iZ s)), some (vR (some (8, sa + 1 + 2 + 2 * i.toNat))), none] [] m K := by
    intro o
    rw [if_neg o] at hk
    refine wp_ok (by decide) OK_104 (cc := cd_104) rfl (stops := []) 30 _ _ _ _ ?_
    refine And.intro (Or.inr rfl) ?_
    refine And.intro trivial ?_
    rw [hR.1.2.2.2.2.2.2.2.2.2]
    have FA : Fr (AEd (sa + 1 + 2 + 2 * i.toNat)) m (sI (sI m 8 (sa + 1 + 2 + 2 * i.toNat) 12 (iZ s)) 4 4 3 1) := (Fr.st (Or.inl ⟨rfl, rfl, by omega⟩)).tr (Fr.st (Or.inr ⟨rfl, rfl, rfl⟩))
    have e3 : gI (sI (sI m 8 (sa + 1 + 2 + 2 * i.toNat) 12 (iZ s)) 4 4 3 1) 4 4 3 = 1 := by rw [gI_s, if_pos ⟨rfl, rfl, rfl⟩]
    have g : ∀ {k : Nat}, k ≠ 12 → gI (sI (sI m 8 (sa + 1 + 2 + 2 * i.toNat) 12 (iZ s)) 4 4 3 1) 8 (sa + 1 + 2 + 2 * i.toNat) k = gI m 8 (sa + 1 + 2 + 2 * i.toNat) k := fun u => by rw [gI_s, if_neg (by omega), gI_s, if_neg (by omega)]
    have gk : gI (sI (sI m 8 (sa + 1 + 2 + 2 * i.toNat) 12 (iZ s)) 4 4 3 1) 8 (sa + 1 + 2 + 2 * i.toNat) 12 = iZ s := by rw [gI_s, if_neg (by omega), gI_s, if_pos ⟨rfl, rfl, rfl⟩]
    generalize sI (sI m 8 (sa + 1 + 2 + 2 * i.toNat) 12 (iZ s)) 4 4 3 1 = m2 at *
    have hN2 : NRep m2 (sa + 1 + 2 + 2 * i.toNat) (upq (D.2.1 i.toNat) 12 s) := hR.ed q2 FA (upq_same (by decide)) ((g (by decide)).trans hR.1.2.2.2.2.2.2.2.1) ((g (by decide)).trans hR.1.2.2.2.2.2.2.2.2.1) ((g (by decide)).trans hR2.1) ((g (by decide)).trans hR2.2.1) gk (ngr_11 rfl)
    exact hk m2 ⟨sa, sb, j, true, CJ.ed hS h hn.2 (afF_ok hn.1 q2 hr) FA hN2 e3⟩ (fun t n k u1 u2 u3 => FA.2 _ _ _ (by unfold AEd; omega))
  refine And.intro (fun o => ?_) (fun o => ?_)
  · rw [L1, iZ_eq rs (by decide)] at o
    exact And.intro trivial (good (fun q => o q.1))
  rw [L1, iZ_eq rs (by decide)] at o
  have tA : ∀ {Q : Option SV → Mem → Prop} {k : Int} {xx : Int32}, xx = iZ k → R32 k → (k = 1 ∨ k = 8 → Q (some (vI 1)) m) → (¬ (k = 1 ∨ k = 8) → Q (some (vI 0)) m) → smC true 91 [vI xx] m Q := by
    intro Q k xx e r h1 h0
    subst e
    exact c_takesAfterbeat r h1 h0
  refine And.intro trivial (tA hR.1.2.2.2.2.2.2.2.2.1 (by constructor <;> omega) (fun q => ?_) (fun q => ?_))
  · refine And.intro (fun _ => ?_) (fun z => absurd z (by decide))
    exact And.intro trivial (good (fun p => p.2 q))
  · refine And.intro (fun z => absurd rfl z) (fun _ => ?_)
    rw [if_pos ⟨o, q⟩] at hk
    exact And.intro trivial (hk m ⟨sa, sb, j, st, h⟩ (FC.rf _))
end OPS2
