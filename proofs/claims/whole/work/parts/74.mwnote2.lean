/-! THE MODEL: writesNote, its stages -/
section MWN2
variable {m0 m : Mem} {K : Option SV → Mem → Prop} {D : Dt} {tm : Nat → Int} {i : Nat} {s : WS} {lf a : Int} {b : Bool}
theorem AM_AMN {t n k : Nat} (h : AM i t n k) : AMN i t n k := Or.inl h
theorem nAM2 {t n k : Nat} (h : t = 24 ∨ t = 27 ∨ t = 28 ∨ t = 29 ∨ 41 ≤ t ∧ t ≤ 44 ∨ t = 23 ∧ 44 ≤ k ∧ k ≤ 48) : ¬ AM i t n k := by unfold AM; omega
theorem ME.re2 {m1 : Mem} (hE : ME m0 i tm D) (F : Fr (AM i) m0 m1) : ME m1 i tm D := hE.re F (fun t n k q => nAM2 (by omega)) (fun k q => nAM2 (by omega))
/-- a store into the arrays by note keeps all of it -/
theorem M_keep {t n k : Nat} {v : Int32} (ht : 41 ≤ t ∧ t ≤ 44) (hE : ME m0 i tm D) (hC : MC m0 m i s lf a b) : ME (sI m t n k v) i tm D ∧ MC (sI m t n k v) (sI m t n k v) i s lf a b := by
  have F : Fr (fun t' _ _ => t' = t) m (sI m t n k v) := Fr.st rfl
  exact ⟨(hE.re2 hC.2.2.2).re F (fun t' n k q z => by omega) (fun k q z => by omega), hC.re F (fun t' n k q z => by omega)⟩
theorem idx3 {q : Nat} (hi : i < 48) (hq : q < 3) : (3 : Int32) * iZ (i : Int) + iZ (q : Int) = iZ ((3 * i + q : Nat) : Int) ∧ (iZ ((3 * i + q : Nat) : Int)).toNatClampNeg = 3 * i + q ∧ vp_in (iZ ((3 * i + q : Nat) : Int)) 144 := by
  refine ⟨by rw [L3, iZ_mul, iZ_add]; congr 1, by rw [iZ_clamp (by constructor <;> omega)]; omega, (iZ_in (by constructor <;> omega)).mpr (by omega)⟩
theorem M_wnote (hE : E3 m tm D) (htm : tmOK tm) (hD : DOK D) (hi : i < D.1) (hn1 : D.2.1 i 0 = 1) (e44 : gI m 23 231 44 = iZ i) (hS : MS m s) (hcur : s.2.2 = D.2.1 i 4) (h45 : gI m 45 253 i = 0) (hlen : s.1.length + 80 ≤ 3600)
    (h : ∀ m', MS m' (wN tm (tm 5) (D.2.1 i) (nxD 0 D i) i s).1 → MRes m' i s.1.length ((wN tm (tm 5) (D.2.1 i) (nxD 0 D i) i s).1.1.length - s.1.length) (wN tm (tm 5) (D.2.1 i) (nxD 0 D i) i s).2.1 (wN tm (tm 5) (D.2.1 i) (nxD 0 D i) i s).2.2.1 (wN tm (tm 5) (D.2.1 i) (nxD 0 D i) i s).2.2.2 → Fr (AMN i) m m' → K none m') : smC true 176 [vR (some (23, 231))] m K := by
  have h48 := hD.1
  have hno := hD.2.1 i hi
  have hT := wT_rng (pc := tm 5) htm hno (by have := htm.2.2.2.2.2.1; omega)
  have eN : wN tm (tm 5) (D.2.1 i) (nxD 0 D i) i s = (let r := wP tm (tm 5) (D.2.1 i) i s; let lf := D.2.1 i 5 - r.2.2.1; let b := wB tm (tm 5) (D.2.1 i) (nxD 0 D i) r.2.1 lf; let e := behS i (wT tm (tm 5) (D.2.1 i)) (D.2.1 i 12) (nxD 0 D i) b.2.2 (wC i (Pk (tm 3) (D.2.1 i) 0) lf b r.2.1); (e.2, (r.1, b.1, e.1), r.2.2.1, r.2.2.2)) := by unfold wN; rw [if_pos hn1]
  rw [eN] at h
  have ok1 := preS_ok (i := i) (P := Pk (tm 3) (D.2.1 i)) (g := nGr (D.2.1 i)) (ah := tm 2) (qa := decide (qk (tm 0) (D.2.1 i 9) (tm 5) (apL (D.2.1 i 5)))) (s := s) hT hno.2.2.1 hno.2.2.2.2.2.2.2.2.1
  have h8 := wP_8 (pc := tm 5) (i := i) (s := s) htm hno
  change (0 ≤ (wP tm (tm 5) (D.2.1 i) i s).1 ∧ (wP tm (tm 5) (D.2.1 i) i s).1 ≤ 3) ∧ (wP tm (tm 5) (D.2.1 i) i s).2.1.1.length ≤ s.1.length + 4 ∧ 0 ≤ (wP tm (tm 5) (D.2.1 i) i s).2.2.1 ∧ 8 ≤ D.2.1 i 5 - (wP tm (tm 5) (D.2.1 i) i s).2.2.1 at ok1
  have ci : (iZ (i : Int)).toNatClampNeg = i := by rw [iZ_clamp (by constructor <;> omega)]; omega
  have hin : vp_in (iZ (i : Int)) 48 := (iZ_in (by constructor <;> omega)).mpr (by omega)
  have h16 := hno.2.2.1
  refine wn_1 hE htm hD hi hn1 e44 hS hcur h45 (fun m1 E1 C1 F1 => ?_)
  refine wp_ok (by decide) OK_176 (cc := cd_176) rfl (stops := [113]) 60 _ _ _ _ ?_
  have n1 := rn E1 C1
  refine And.intro (by rw [n1]; exact hin) ?_
  refine And.intro trivial ?_
  rw [n1, ci, C1.1.2.1]
  have K2 := M_keep (t := 41) (n := 249) (k := i) (v := iZ s.1.length) (by omega) E1 C1
  have F2 : Fr (AMN i) m (sI m1 41 249 i (iZ s.1.length)) := F1.tr (Fr.st (Or.inr (Or.inr (Or.inl ⟨rfl, rfl, rfl⟩))))
  have r1 : gI (sI m1 41 249 i (iZ s.1.length)) 41 249 i = iZ s.1.length := by rw [gI_s, if_pos ⟨rfl, rfl, rfl⟩]
  generalize sI m1 41 249 i (iZ s.1.length) = m2 at *
  obtain ⟨E2, C2⟩ := K2
  clear E1 C1 F1 n1
  have n2 := rn E2 C2
  have i0 := idx3 (i := i) (q := 0) (by omega) (by decide)
  have i1 := idx3 (i := i) (q := 1) (by omega) (by decide)
  have i2 := idx3 (i := i) (q := 2) (by omega) (by decide)
  have i0' : (3 : Int32) * iZ (i : Int) = iZ ((3 * i + 0 : Nat) : Int) := by rw [L3, iZ_mul]; congr 1
  refine wp1_ok (by decide) OK_176 (cc := cd_176) rfl (stops := [128]) (f := 60) ?_
  refine And.intro trivial (M_prefix E2 C2 (by omega) (fun m3 C3 => ?_))
  generalize er : wP tm (tm 5) (D.2.1 i) i s = r at *
  obtain ⟨rv, rs, ro, ra⟩ := r
  simp only at C3 ok1 h h8
  refine And.intro (by rw [n2, i0']; exact i0.2.2) ?_
  refine And.intro trivial ?_
  rw [n2, i0', i0.2.1]
  have K4 := M_keep (t := 43) (n := 251) (k := 3 * i + 0) (v := iZ rv) (by omega) E2 C3
  have F4 : Fr (AMN i) m (sI m3 43 251 (3 * i + 0) (iZ rv)) := (F2.tr (C3.2.2.2.mono (fun t n k z => AM_AMN z))).tr (Fr.st (Or.inr (Or.inr (Or.inr (Or.inr (Or.inl ⟨rfl, rfl, by omega⟩))))))
  have r1 : gI (sI m3 43 251 (3 * i + 0) (iZ rv)) 41 249 i = iZ s.1.length := by rw [gI_s, if_neg (by omega), C3.2.2.2.2 _ _ _ (nAM2 (by omega))]; exact r1
  have r2 : gI (sI m3 43 251 (3 * i + 0) (iZ rv)) 43 251 (3 * i) = iZ rv := by rw [gI_s, if_pos ⟨rfl, rfl, rfl⟩]
  generalize sI m3 43 251 (3 * i + 0) (iZ rv) = m4 at *
  obtain ⟨E4, C4⟩ := K4
  clear E2 C2 C3 F2 n2
  have n4 := rn E4 C4
  have EE4 := MC.e3 E4 C4
  refine wp1_ok (by decide) OK_176 (cc := cd_176) rfl (stops := [151]) (f := 60) ?_
  refine And.intro trivial (M_of (i := i) (w := 5) n4 rfl hD EE4.2.2 hi (by decide) ?_)
  refine And.intro (by rw [n4]; exact hin) ?_
  refine And.intro trivial ?_
  have e5 : iZ (mw 5 (D.2.1 i 5)) - gI m4 23 231 51 = iZ (3 * ro) := by
    rw [C4.2.1.1, iZ_sub]; congr 1
    show 3 * D.2.1 i 5 - _ = _
    omega
  rw [n4, ci, e5]
  have K5 := M_keep (t := 44) (n := 252) (k := i) (v := iZ (3 * ro)) (by omega) E4 C4
  have F5 : Fr (AMN i) m (sI m4 44 252 i (iZ (3 * ro))) := F4.tr (Fr.st (Or.inr (Or.inr (Or.inr (Or.inr (Or.inr ⟨rfl, rfl, rfl⟩))))))
  have r1 : gI (sI m4 44 252 i (iZ (3 * ro))) 41 249 i = iZ s.1.length := by rw [gI_s, if_neg (by omega)]; exact r1
  have r2 : gI (sI m4 44 252 i (iZ (3 * ro))) 43 251 (3 * i) = iZ rv := by rw [gI_s, if_neg (by omega)]; exact r2
  have r3 : gI (sI m4 44 252 i (iZ (3 * ro))) 44 252 i = iZ (3 * ro) := by rw [gI_s, if_pos ⟨rfl, rfl, rfl⟩]
  generalize sI m4 44 252 i (iZ (3 * ro)) = m5 at *
  obtain ⟨E5, C5⟩ := K5
  clear E4 C4 F4 n4 EE4 e5
  have ok2 : bOK (wB tm (tm 5) (D.2.1 i) (nxD 0 D i) rs (D.2.1 i 5 - ro)) := bodS_ok (by omega)
  have ok3 := wC_ok (i := i) (p := Pk (tm 3) (D.2.1 i) 0) (lf := D.2.1 i 5 - ro) (s := rs) ok2
  refine wp1_ok (by decide) OK_176 (cc := cd_176) rfl (stops := [165, 174]) (f := 60) ?_
  refine And.intro trivial (M_body E5 (by omega) C5 (by omega) (fun m6 l6 q6 C6 => ?_))
  generalize eb : wB tm (tm 5) (D.2.1 i) (nxD 0 D i) rs (D.2.1 i 5 - ro) = bb at *
  have rb : 0 ≤ bb.1 ∧ bb.1 ≤ 3 := by rcases ok2.2 with ⟨z, _⟩ | ⟨z, _⟩ <;> omega
  have fin : ∀ m7 l7, MC m5 m7 i (wC i (Pk (tm 3) (D.2.1 i) 0) (D.2.1 i 5 - ro) bb rs) l7 ra bb.2.2 → smE true 176 174 [some (vR (some (23, 231))), some (vI (iZ bb.1))] [] m7 K := by
    intro m7 l7 C7
    have F7 : Fr (AMN i) m m7 := F5.tr (C7.2.2.2.mono (fun t n k z => AM_AMN z))
    have g7 : ∀ {t n k : Nat}, 41 ≤ t ∧ t ≤ 44 → gI m7 t n k = gI m5 t n k := fun q => C7.2.2.2.2 _ _ _ (nAM2 (by omega))
    have n7 := rn E5 C7
    refine wp_ok (by decide) OK_176 (cc := cd_176) rfl (stops := [188]) 60 _ _ _ _ ?_
    refine And.intro (by rw [n7, show (1 : Int32) = iZ ((1 : Nat) : Int) from rfl, i1.1]; exact i1.2.2) ?_
    refine And.intro trivial ?_
    rw [n7, show (1 : Int32) = iZ ((1 : Nat) : Int) from rfl, i1.1, i1.2.1]
    have K8 := M_keep (t := 43) (n := 251) (k := 3 * i + 1) (v := iZ bb.1) (by omega) E5 C7
    have F8 : Fr (AMN i) m (sI m7 43 251 (3 * i + 1) (iZ bb.1)) := F7.tr (Fr.st (Or.inr (Or.inr (Or.inr (Or.inr (Or.inl ⟨rfl, rfl, by omega⟩))))))
    have r1 : gI (sI m7 43 251 (3 * i + 1) (iZ bb.1)) 41 249 i = iZ s.1.length := by rw [gI_s, if_neg (by omega), g7 (by omega)]; exact r1
    have r2 : gI (sI m7 43 251 (3 * i + 1) (iZ bb.1)) 43 251 (3 * i) = iZ rv := by rw [gI_s, if_neg (by omega), g7 (by omega)]; exact r2
    have r3 : gI (sI m7 43 251 (3 * i + 1) (iZ bb.1)) 44 252 i = iZ (3 * ro) := by rw [gI_s, if_neg (by omega), g7 (by omega)]; exact r3
    have r4 : gI (sI m7 43 251 (3 * i + 1) (iZ bb.1)) 43 251 (3 * i + 1) = iZ bb.1 := by rw [gI_s, if_pos ⟨rfl, rfl, rfl⟩]
    generalize sI m7 43 251 (3 * i + 1) (iZ bb.1) = m8 at *
    obtain ⟨E8, C8⟩ := K8
    have n8 := rn E8 C8
    refine wp1_ok (by decide) OK_176 (cc := cd_176) rfl (stops := [205]) (f := 60) ?_
    refine And.intro trivial (M_behind E8 ok3.1 C8 (by omega) (fun m9 C9 => ?_))
    generalize ee : behS i (wT tm (tm 5) (D.2.1 i)) (D.2.1 i 12) (nxD 0 D i) bb.2.2 (wC i (Pk (tm 3) (D.2.1 i) 0) (D.2.1 i 5 - ro) bb rs) = e at *
    have g9 : ∀ {t n k : Nat}, 41 ≤ t ∧ t ≤ 44 → gI m9 t n k = gI m8 t n k := fun q => C9.2.2.2.2 _ _ _ (nAM2 (by omega))
    have F9 : Fr (AMN i) m m9 := F8.tr (C9.2.2.2.mono (fun t n k z => AM_AMN z))
    refine And.intro (by rw [n8, show (2 : Int32) = iZ ((2 : Nat) : Int) from rfl, i2.1]; exact i2.2.2) ?_
    refine And.intro trivial ?_
    rw [n8, show (2 : Int32) = iZ ((2 : Nat) : Int) from rfl, i2.1, i2.2.1]
    have KA := M_keep (t := 43) (n := 251) (k := 3 * i + 2) (v := iZ e.1) (by omega) E8 C9
    have FA : Fr (AMN i) m (sI m9 43 251 (3 * i + 2) (iZ e.1)) := F9.tr (Fr.st (Or.inr (Or.inr (Or.inr (Or.inr (Or.inl ⟨rfl, rfl, by omega⟩))))))
    have r1 : gI (sI m9 43 251 (3 * i + 2) (iZ e.1)) 41 249 i = iZ s.1.length := by rw [gI_s, if_neg (by omega), g9 (by omega)]; exact r1
    have r2 : gI (sI m9 43 251 (3 * i + 2) (iZ e.1)) 43 251 (3 * i) = iZ rv := by rw [gI_s, if_neg (by omega), g9 (by omega)]; exact r2
    have r3 : gI (sI m9 43 251 (3 * i + 2) (iZ e.1)) 44 252 i = iZ (3 * ro) := by rw [gI_s, if_neg (by omega), g9 (by omega)]; exact r3
    have r4 : gI (sI m9 43 251 (3 * i + 2) (iZ e.1)) 43 251 (3 * i + 1) = iZ bb.1 := by rw [gI_s, if_neg (by omega), g9 (by omega)]; exact r4
    have r5 : gI (sI m9 43 251 (3 * i + 2) (iZ e.1)) 43 251 (3 * i + 2) = iZ e.1 := by rw [gI_s, if_pos ⟨rfl, rfl, rfl⟩]
    generalize sI m9 43 251 (3 * i + 2) (iZ e.1) = mA at *
    obtain ⟨EA, CA⟩ := KA
    have nA := rn EA CA
    refine wp1_ok (by decide) OK_176 (cc := cd_176) rfl (stops := []) (f := 60) ?_
    refine And.intro (by rw [nA]; exact hin) ?_
    refine And.intro (by rw [nA]; exact hin) ?_
    refine And.intro trivial ?_
    rw [nA, ci, CA.1.2.1, r1, iZ_sub]
    have KB := M_keep (t := 42) (n := 250) (k := i) (v := iZ ((e.2.1.length : Int) - s.1.length)) (by omega) EA CA
    refine h _ KB.2.ms ⟨?_, ?_, ⟨?_, ?_, ?_⟩, ?_, ?_⟩ (FA.tr (Fr.st (Or.inr (Or.inr (Or.inr (Or.inl ⟨rfl, rfl, rfl⟩))))))
    · rw [gI_s, if_neg (by omega)]; exact r1
    · rw [gI_s, if_pos ⟨rfl, rfl, rfl⟩]
    · rw [gI_s, if_neg (by omega)]; exact r2
    · rw [gI_s, if_neg (by omega)]; exact r4
    · rw [gI_s, if_neg (by omega)]; exact r5
    · rw [gI_s, if_neg (by omega)]; exact r3
    · rw [gI_s, if_neg (by omega)]; exact CA.2.1.2.1
  have pl : bb.1 = 0 ∨ bb.1 = 3 → smE true 176 165 [some (vR (some (23, 231))), some (vI (iZ bb.1))] [] m6 K := by
    intro z
    have el : l6 = D.2.1 i 5 - ro := q6 (by omega)
    have e2 : bb.2.1 = [] := by rcases ok2.2 with ⟨w, _⟩ | ⟨_, w⟩; omega; exact w
    refine wp_ok (by decide) OK_176 (cc := cd_176) rfl (stops := [174]) 60 _ _ _ _ ?_
    refine And.intro trivial (M_puts (kd := 0) (l := l6) rfl C6.2.1.1 (by omega) E5 C6 (by omega) (by rw [apN_len, e2]; simp only [List.length_nil]; omega) (fun m7 C7 => ?_))
    refine And.intro trivial (fin m7 l6 ?_)
    unfold wC
    rw [if_pos z, ← el]
    exact C7
  have np : ¬ (bb.1 = 0 ∨ bb.1 = 3) → smE true 176 174 [some (vR (some (23, 231))), some (vI (iZ bb.1))] [] m6 K := by
    intro z
    refine fin m6 l6 ?_
    unfold wC
    rw [if_neg z]
    exact C6
  refine And.intro (fun z => ?_) (fun z => ?_)
  · rw [L0, iZ_eq (by constructor <;> omega) (by decide)] at z
    exact And.intro trivial (pl (Or.inl z))
  · rw [L0, iZ_eq (by constructor <;> omega) (by decide)] at z
    refine And.intro (fun y => ?_) (fun y => ?_)
    · rw [L3, iZ_eq (by constructor <;> omega) (by decide)] at y
      exact And.intro trivial (np (by omega))
    · rw [L3, iZ_eq (by constructor <;> omega) (by decide)] at y
      exact And.intro trivial (pl (Or.inr y))
end MWN2
