/-! THE MODEL's reader: tones -/
def tix (s : Nat) : Nat := 9 * (s % 7) + s / 7
def MTo (m : Mem) (told : Nat → Int) : Prop := ∀ s, s < 63 → gI m 33 241 (tix s) = iZ (told s)
theorem tix_in {s : Nat} (h : s < 63) : tix s < 63 := by unfold tix; omega
theorem tix_inj {s r : Nat} (hs : s < 63) (hr : r < 63) (h : tix s = tix r) : s = r := by unfold tix at h; omega
def AZt : Nat → Nat → Nat → Prop := fun t n k => AWr t n k ∨ (t = 23 ∧ n = 231 ∧ 27 ≤ k ∧ k ≤ 29) ∨ (t = 33 ∧ n = 241)
theorem AWr_AZt {t n k : Nat} (h : AWr t n k) : AZt t n k := Or.inl h
section MTONE
variable {m : Mem} {K : Option SV → Mem → Prop} {tp : Nat → Int} {n : Nat} {t : TK} {key : Int} {told : Nat → Int}
theorem MB.fr {A : Nat → Nat → Nat → Prop} {m' : Mem} (h : MB m) (F : Fr A m m') (hA : ∀ t n k, t = 27 ∨ t = 28 → ¬ A t n k) : MB m' := by
  have r27 : ∀ n k, gI m' 27 n k = gI m 27 n k := fun n k => F.2 27 n k (hA _ _ _ (by decide))
  have r28 : ∀ n k, gI m' 28 n k = gI m 28 n k := fun n k => F.2 28 n k (hA _ _ _ (by decide))
  unfold MB
  simp only [r27, r28]
  exact h
theorem M_readsTone1 (h0 : MBad m) (h : K none m) : smC true 152 [vR (some (23, 231))] m K := by
  refine smC_wp [some (vR (some (23, 231))), none, none] cd_152 [] 40 OK_152 (by decide) rfl rfl (Nat.le_of_ble_eq_true rfl) ?_
  refine And.intro trivial (M_isLetter1 h0 ?_)
  refine And.intro (fun z => absurd rfl z) (fun _ => ?_)
  refine And.intro trivial (M_fails1 h0 ?_)
  exact And.intro trivial h
theorem M_readsTone (h0 : MOk m) (hB : MB m) (rk : -7 ≤ key ∧ key ≤ 7) (e22 : gI m 23 231 22 = iZ key) (htd : TDOK told) (hto : MTo m told) (hT : TPOK tp) (hn : n ≤ 800) (ht : TOK tp n t) (hR : MRS m tp n t)
    (hF : ∀ m' e, pPitch tp n key told t = .inl e → MFt m' e → Fr AZt m m' → K none m') (hS : ∀ m' x told' t', pPitch tp n key told t = .inr (x, told', t') → MRS m' tp n t' → MOk m' → MTo m' told' → gI m' 23 231 27 = iZ x.1 → gI m' 23 231 28 = iZ x.2.1 → gI m' 23 231 29 = iZ x.2.2 → Fr AZt m m' → K none m') : smC true 152 [vR (some (23, 231))] m K := by
  unfold pPitch at hF hS
  have a1 := ht.2.1
  refine smC_wp [some (vR (some (23, 231))), none, none] cd_152 [38] 60 OK_152 (by decide) rfl rfl (Nat.le_of_ble_eq_true rfl) ?_
  refine And.intro trivial (M_isLetter h0 hn ht hR (fun w1 w2 => ?_) (fun w => ?_))
  rotate_left
  · rw [if_pos w] at hF
    refine And.intro (fun z => absurd rfl z) (fun _ => ?_)
    refine And.intro trivial (M_fails (a := 1) (p := t.2.1) rfl hR.2.2.1 h0 (fun m1 f1 F1 => ?_))
    exact And.intro trivial (hF m1 _ rfl f1 (F1.mono (fun t n k z => Or.inl ⟨z.1, z.2.1, by omega⟩)))
  rw [if_neg (by omega)] at hF hS
  have apl : t.2.1 < t.2.2.2 := ht.2.2.2.1 (by have := w2.1; omega)
  have hl := letT_rng tp t
  have a2 := nx_ok hT hn ht
  have hs := sgn_rng (nx tp n t)
  have a3 : TOK tp n (if sgn (nx tp n t) = 2 then nx tp n t else nx tp n (nx tp n t)) := by
    split
    · exact a2.1
    · exact (nx_ok hT hn a2.1).1
  refine And.intro (fun _ => ?_) (fun z => absurd z (by decide))
  refine And.intro (by rw [hR.2.2.1]; exact (iZ_in (by constructor <;> omega)).mpr (by omega)) ?_
  refine And.intro (by decide) ?_
  refine And.intro trivial ?_
  have hb3 := w2.2.1
  have ev : gI m 31 239 (gI m 23 231 15).toNatClampNeg = iZ (tp t.2.1) := by
    rw [hR.2.2.1, iZ_clamp (by constructor <;> omega), show ((t.2.1 : Nat) : Int).toNat = t.2.1 by omega, hR.1.1 _ (by omega), sg_lo (by omega)]
  rw [ev, L97, L5, L7, iZ_sub, iZ_add, iZ_rem (by constructor <;> omega) (by decide) (by omega) (by decide), ← w2.2.2]
  have FZ : Fr (fun t n k => t = 23 ∧ n = 231 ∧ k = 27) m (sI m 23 231 27 (iZ (letT tp t))) := Fr.st ⟨rfl, rfl, rfl⟩
  have z27 : gI (sI m 23 231 27 (iZ (letT tp t))) 23 231 27 = iZ (letT tp t) := by rw [gI_s, if_pos ⟨rfl, rfl, rfl⟩]
  have R1 : MRS (sI m 23 231 27 (iZ (letT tp t))) tp n t := hR.fr FZ (fun n k => by omega) (fun k hk => by omega)
  have o1 : MOk (sI m 23 231 27 (iZ (letT tp t))) := (MOk.fr h0 FZ (by omega) (by omega))
  have G1 : Fr AZt m (sI m 23 231 27 (iZ (letT tp t))) := FZ.mono (fun t n k z => Or.inr (Or.inl ⟨z.1, z.2.1, by omega⟩))
  generalize sI m 23 231 27 (iZ (letT tp t)) = ma at *
  refine wp1_ok (by decide) OK_152 (cc := cd_152) rfl (stops := [58]) (f := 60) ?_
  refine And.intro trivial (M_nx hT hn ht R1 (fun mb R2 F2 => ?_))
  have o2 := o1.au F2
  refine And.intro trivial (M_readsSign o2 hT hn a2.1 R2 (fun mc R3 F3 => ?_))
  have o3 := o2.au F3
  have G3 : Fr AZt m mc := G1.tr ((F2.tr F3).mono (fun t n k z => AWr_AZt (AU_AWr z)))
  have k3 : ∀ k, 18 ≤ k → gI mc 23 231 k = gI ma 23 231 k := fun k hk => (F3.2 _ _ _ (by unfold AU; omega)).trans (F2.2 _ _ _ (by unfold AU; omega))
  generalize eta : (if sgn (nx tp n t) = 2 then nx tp n t else nx tp n (nx tp n t)) = tb at *
  refine And.intro trivial (M_number (lo := 0) (hi := 8) rfl rfl (by decide) (by decide) o3 hT hn a3 R3 (fun md e v h4 f4 F4 => ?_) (fun md o tc h4 R4 o4 F4 => ?_))
  · refine And.intro trivial ?_
    have f5 : MFt (sI md 23 231 28 v) e := ⟨by rw [gI_s, if_neg (by omega)]; exact f4.1, by rw [gI_s, if_neg (by omega)]; exact f4.2⟩
    have G5 : Fr AZt m (sI md 23 231 28 v) := (G3.tr (F4.mono (fun t n k z => AWr_AZt z))).tr (Fr.st (Or.inr (Or.inl ⟨rfl, rfl, by omega⟩)))
    generalize sI md 23 231 28 v = me at *
    refine wp1_ok (by decide) OK_152 (cc := cd_152) rfl (stops := []) (f := 60) ?_
    refine And.intro (fun z => absurd z (bad_ne f5 (pNum_e h4))) (fun _ => ?_)
    exact And.intro trivial (hF me e (by rw [h4]) f5 G5)
  have a4 := pNum_ok hT hn a3 h4
  rw [h4] at hS
  simp only at hS
  refine And.intro trivial ?_
  have FY : Fr (fun t n k => t = 23 ∧ n = 231 ∧ k = 28) md (sI md 23 231 28 (iZ o)) := Fr.st ⟨rfl, rfl, rfl⟩
  have z28 : gI (sI md 23 231 28 (iZ o)) 23 231 28 = iZ o := by rw [gI_s, if_pos ⟨rfl, rfl, rfl⟩]
  have z27' : gI (sI md 23 231 28 (iZ o)) 23 231 27 = iZ (letT tp t) := by rw [gI_s, if_neg (by omega), F4.2 _ _ _ (by unfold AWr; omega), k3 27 (by omega)]; exact z27
  have z22 : gI (sI md 23 231 28 (iZ o)) 23 231 22 = iZ key := by
    rw [gI_s, if_neg (by omega), F4.2 _ _ _ (by unfold AWr; omega), k3 22 (by omega), FZ.2 _ _ _ (by omega)]; exact e22
  have R5 : MRS (sI md 23 231 28 (iZ o)) tp n tc := R4.fr FY (fun n k => by omega) (fun k hk => by omega)
  have o5 : MOk (sI md 23 231 28 (iZ o)) := (MOk.fr o4 FY (by omega) (by omega))
  have G5 : Fr AZt m (sI md 23 231 28 (iZ o)) := (G3.tr (F4.mono (fun t n k z => AWr_AZt z))).tr (FY.mono (fun t n k z => Or.inr (Or.inl ⟨z.1, z.2.1, by omega⟩)))
  have T5 : MTo (sI md 23 231 28 (iZ o)) told := fun s hs => by
    rw [gI_s, if_neg (by omega), F4.2 _ _ _ (by unfold AWr; omega), F3.2 _ _ _ (by unfold AU; omega), F2.2 _ _ _ (by unfold AU; omega), FZ.2 _ _ _ (by omega)]
    exact hto s hs
  have B5 : MB (sI md 23 231 28 (iZ o)) := hB.fr G5 (fun t n k z => by unfold AZt AWr; omega)
  generalize sI md 23 231 28 (iZ o) = me at *
  generalize est : 7 * o + letT tp t = st at hS
  have rst : 0 ≤ st ∧ st < 63 := by omega
  have etx : 9 * letT tp t + o = ((tix st.toNat : Nat) : Int) := by unfold tix; omega
  have hti := tix_in (s := st.toNat) (by omega)
  have fin : ∀ (mf : Mem) (told' : Nat → Int), told' = (if sgn (nx tp n t) = 2 then told else upq told st.toNat (sgn (nx tp n t))) → MTo mf told' → TDOK told' → MRS mf tp n tc → MOk mf → MB mf → gI mf 23 231 27 = iZ (letT tp t) → gI mf 23 231 28 = iZ o → gI mf 23 231 22 = iZ key → Fr AZt m mf → smE true 152 89 [some (vR (some (23, 231))), some (vI (iZ (sgn (nx tp n t)))), none] [] mf K := by
    intro mf told' et T6 D6 R6 o6 B6 y27 y28 y22 G6
    have r6 := D6 st.toNat (by omega)
    have ei : (9 : Int32) * gI mf 23 231 27 + gI mf 23 231 28 = iZ ((tix st.toNat : Nat) : Int) := by rw [y27, y28, L9, iZ_mul, iZ_add, etx]
    have ev6 : gI mf 33 241 ((9 : Int32) * gI mf 23 231 27 + gI mf 23 231 28).toNatClampNeg = iZ (told' st.toNat) := by
      rw [ei, iZ_clamp (by constructor <;> omega), show ((tix st.toNat : Nat) : Int).toNat = tix st.toNat by omega]; exact T6 _ (by omega)
    have e7 : st % 7 = letT tp t ∧ st / 7 = o := by omega
    have last : ∀ w : Int, w = byN st (told' st.toNat) key - natN st → smE true 152 141 [some (vR (some (23, 231))), some (vI (iZ (sgn (nx tp n t)))), some (vI (iZ (told' st.toNat)))] [vI (iZ w), vI (iZ (natN st)), vR (some (23, 231))] mf K := by
      intro w ew
      refine wp_ok (by decide) OK_152 (cc := cd_152) rfl (stops := []) 30 _ _ _ _ ?_
      refine And.intro trivial ?_
      rw [iZ_add, show natN st + w = byN st (told' st.toNat) key by omega]
      have FW : Fr (fun t n k => t = 23 ∧ n = 231 ∧ k = 29) mf (sI mf 23 231 29 (iZ (byN st (told' st.toNat) key))) := Fr.st ⟨rfl, rfl, rfl⟩
      rw [← et] at hS
      refine hS _ _ _ _ rfl (R6.fr FW (fun n k => by omega) (fun k hk => by omega)) ((MOk.fr o6 FW (by omega) (by omega))) (fun s hs => (FW.2 _ _ _ (by omega)).trans (T6 s hs)) ((FW.2 _ _ _ (by omega)).trans y27) ((FW.2 _ _ _ (by omega)).trans y28) ?_ (G6.tr (FW.mono (fun t n k z => Or.inr (Or.inl ⟨z.1, z.2.1, by omega⟩))))
      rw [gI_s, if_pos ⟨rfl, rfl, rfl⟩]
    refine wp_ok (by decide) OK_152 (cc := cd_152) rfl (stops := [107]) 60 _ _ _ _ ?_
    refine And.intro (by rw [ei]; exact (iZ_in (by constructor <;> omega)).mpr (by omega)) ?_
    refine And.intro trivial ?_
    rw [ev6]
    refine wp1_ok (by decide) OK_152 (cc := cd_152) rfl (stops := [141]) (f := 60) ?_
    refine And.intro trivial (M_plainOf (l := st % 7) (o := st / 7) (by rw [y27, e7.1]) (by rw [y28, e7.2]) B6 (m7 st) ?_)
    have en : 12 * (st / 7 + 1) + bsN (st % 7) = natN st := rfl
    rw [en]
    refine And.intro (fun z => ?_) (fun z => ?_)
    · rw [L2, iZ_eq (by constructor <;> omega) (by decide)] at z
      refine And.intro trivial (last _ ?_)
      unfold byN; rw [if_pos z]; omega
    · rw [L2, iZ_eq (by constructor <;> omega) (by decide)] at z
      refine And.intro trivial (M_alterBy (key := key) (l := st % 7) y22 (by rw [y27, e7.1]) B6 rk (m7 st) ?_)
      refine And.intro trivial (last _ ?_)
      unfold byN; rw [if_neg (fun u => u z)]; omega
  refine wp1_ok (by decide) OK_152 (cc := cd_152) rfl (stops := [89]) (f := 60) ?_
  refine And.intro (fun _ => ?_) (fun z => absurd o5.1 z)
  refine And.intro (fun z => ?_) (fun z => ?_)
  · rw [L2, iZ_eq (by constructor <;> omega) (by decide)] at z
    exact And.intro trivial (fin me told (by rw [if_pos z]) T5 htd R5 o5 B5 z27' z28 z22 G5)
  · rw [L2, iZ_eq (by constructor <;> omega) (by decide)] at z
    have ei : (9 : Int32) * gI me 23 231 27 + gI me 23 231 28 = iZ ((tix st.toNat : Nat) : Int) := by rw [z27', z28, L9, iZ_mul, iZ_add, etx]
    refine And.intro (by rw [ei]; exact (iZ_in (by constructor <;> omega)).mpr (by omega)) ?_
    refine And.intro trivial ?_
    rw [ei, iZ_clamp (by constructor <;> omega), show ((tix st.toNat : Nat) : Int).toNat = tix st.toNat by omega]
    have FV : Fr (fun t n _ => t = 33 ∧ n = 241) me (sI me 33 241 (tix st.toNat) (iZ (sgn (nx tp n t)))) := Fr.st ⟨rfl, rfl⟩
    refine fin _ (upq told st.toNat (sgn (nx tp n t))) (by rw [if_neg z]) (fun s hs => ?_) (fun k hk => ?_) (R5.fr FV (fun n k => by omega) (fun k hk => by omega)) ((MOk.fr o5 FV (by omega) (by omega))) (B5.fr FV (fun t n k w => by omega)) ((FV.2 _ _ _ (by omega)).trans z27') ((FV.2 _ _ _ (by omega)).trans z28) ((FV.2 _ _ _ (by omega)).trans z22) (G5.tr (FV.mono (fun t n k w => Or.inr (Or.inr w))))
    · rw [gI_s]
      unfold upq
      by_cases es : s = st.toNat
      · rw [if_pos ⟨by rw [es], rfl, rfl⟩, if_pos es]
      · rw [if_neg (fun u => es (tix_inj hs (by omega) u.1)), if_neg es]; exact T5 s hs
    · unfold upq
      split
      · exact hs
      · exact htd k hk
end MTONE
