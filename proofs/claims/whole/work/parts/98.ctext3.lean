/-! every fault is 1, 2 or 3 -/
def EOK (e : Int × Nat) : Prop := 1 ≤ e.1 ∧ e.1 ≤ 3
section EOKS
variable {tp : Nat → Int} {n ls : Nat} {e : Int × Nat}
theorem ek1 (k : Nat) : EOK (1, k) := ⟨by show (1 : Int) ≤ 1; decide, by show (1 : Int) ≤ 3; decide⟩
theorem ek2 (k : Nat) : EOK (2, k) := ⟨by show (1 : Int) ≤ 2; decide, by show (2 : Int) ≤ 3; decide⟩
theorem ek3 (k : Nat) : EOK (3, k) := ⟨by show (1 : Int) ≤ 3; decide, by show (3 : Int) ≤ 3; decide⟩
theorem pNum_e {lo hi : Int} {t : TK} (h : pNum tp n lo hi t = .inl e) : EOK e := by
  unfold pNum at h
  split at h
  · cases h; exact ek1 _
  · split at h
    · cases h; exact ek2 _
    · cases h
theorem pFrac_e {mu ml : Int} {t : TK} (h : pFrac tp n mu ml t = .inl e) : EOK e := by
  unfold pFrac at h
  split at h
  · rename_i ee he; cases h; exact pNum_e he
  · split at h
    · cases h; exact ek1 _
    · split at h
      · cases h; exact ek2 _
      · split at h
        · rename_i ee he; cases h; exact pNum_e he
        · cases h
theorem pPitch_e {key : Int} {told : Nat → Int} {t : TK} (h : pPitch tp n key told t = .inl e) : EOK e := by
  unfold pPitch at h
  split at h
  · cases h; exact ek1 _
  · split at h
    · rename_i ee he; cases h; exact pNum_e he
    · cases h
theorem pGrs_e {key : Int} : ∀ (f k : Nat) (told : Nat → Int) (gs : Nat → Int × Int × Int) (t : TK), pGrs tp n key f k told gs t = .inl e → EOK e
  | 0, k, told, gs, t, h => by unfold pGrs at h; cases h
  | f + 1, k, told, gs, t, h => by
    unfold pGrs at h
    split at h
    · rename_i ee he; cases h; exact pPitch_e he
    · split at h
      · exact pGrs_e f _ _ _ _ h
      · cases h
theorem pPre_e {key : Int} {told : Nat → Int} {t : TK} (h : pPre tp n key told t = .inl e) : EOK e := by
  unfold pPre at h
  split at h
  · cases h
  · split at h
    · split at h
      · rename_i ee he; cases h; exact pGrs_e _ _ _ _ _ he
      · cases h
    · split at h
      · split at h
        · rename_i ee he; cases h; exact pPitch_e he
        · cases h
      · cases h
theorem pSgs_e : ∀ (f : Nat) (q : Int × Int × Bool) (t : TK), pSgs tp n f q t = .inl e → EOK e
  | 0, q, t, h => by unfold pSgs at h; cases h
  | f + 1, q, t, h => by
    unfold pSgs at h
    split at h
    · split at h
      · cases h; exact ek1 _
      · exact pSgs_e f _ _ h
    · cases h
theorem pBody_e {t : TK} (h : pBody tp n t = .inl e) : EOK e := by
  unfold pBody at h
  split at h
  · cases h
  · split at h
    · rename_i ee he; cases h; exact pSgs_e _ _ _ he
    · cases h
theorem pRest_e {p : PS} (h : pRest tp n ls p = .inl e) : EOK e := by
  unfold pRest at h
  simp only at h
  split at h
  · rename_i ee he; cases h; exact pFrac_e he
  · split at h
    · cases h; exact ek3 _
    · cases h
theorem pTie_e {p : PS} (h : pTie tp n ls p = .inl e) : EOK e := by
  unfold pTie at h
  simp only at h
  split at h
  · rename_i ee he; cases h; exact pFrac_e he
  · split at h
    · cases h; exact ek3 _
    · cases h
theorem pNote_e {p : PS} (h : pNote tp n ls p = .inl e) : EOK e := by
  unfold pNote at h
  simp only at h
  split at h
  · rename_i ee he; cases h; exact pPitch_e he
  · split at h
    · rename_i ee he; cases h; exact pFrac_e he
    · split at h
      · rename_i ee he; cases h; exact pPre_e he
      · split at h
        · rename_i ee he; cases h; exact pBody_e he
        · split at h
          · cases h; exact ek3 _
          · cases h
theorem pKey_e {p : PS} (h : pKey tp n p = .inl e) : EOK e := by
  unfold pKey at h
  split at h
  · rename_i ee he; cases h; exact pNum_e he
  · cases h
theorem pMeter_e {p : PS} (h : pMeter tp n ls p = .inl e) : EOK e := by
  unfold pMeter at h
  split at h
  · rename_i ee he; cases h; exact pFrac_e he
  · split at h
    · cases h; exact ek3 _
    · cases h
theorem pSpeed_e {p : PS} (h : pSpeed tp n p = .inl e) : EOK e := by
  unfold pSpeed at h
  split at h
  · rename_i ee he; cases h; exact pNum_e he
  · cases h
theorem pBodyL_e {p : PS} (h : pBodyL tp n p = .inl e) : EOK e := by
  unfold pBodyL at h
  simp only at h
  split at h
  · exact pNote_e h
  · split at h
    · exact pRest_e h
    · split at h
      · exact pTie_e h
      · split at h
        · exact pKey_e h
        · split at h
          · exact pMeter_e h
          · split at h
            · exact pSpeed_e h
            · cases h; exact ek1 _
theorem pLine_e {p : PS} (h : pLine tp n p = .inl e) : EOK e := by
  unfold pLine at h
  split at h
  · rename_i ee he; cases h; exact pBodyL_e he
  · split at h
    · cases h
    · cases h; exact ek1 _
end EOKS
/-! THE CLASS: text, from its first place -/
section CTEXT3
variable {m : Mem} {K : Option SV → Mem → Prop} {tp : Nat → Int} {n sa sb td : Nat} {p : PS}
theorem pAll_eq : pAll tp n = pText tp n (n + 1) (p00 tp n) := rfl
theorem c_text {N : Int} {x : Int32} (hx : x = iZ N) (rN : R32 N) (hT : TPOK tp) (htd : td ≤ 800) (hc : ∀ k, k < 800 → gI m 2 2 k = iZ (tp k)) (e1 : gI m 1 1 1 = iZ td) (ga : gP m 0 0 2 = some (10, sa)) (gb : gP m 0 0 3 = some (10, sb)) (hX : sb + 100 < nX m ∧ 256 ≤ nX m)
    (hB : ¬ (0 ≤ N ∧ N ≤ td) → K (some (vI (iZ (-3)))) m)
    (hF : ∀ m' e, (0 ≤ N ∧ N ≤ td) → pAll tp N.toNat = .inl e → gI m' 0 0 5 = iZ e.1 → gI m' 0 0 6 = iZ e.2 → gI m' 1 1 1 = iZ 0 → gP m' 0 0 2 = some (10, sa) → gP m' 0 0 3 = some (10, sb) → gI m' 4 4 3 = gI m 4 4 3 → FX (AE sb) BE m m' → (nX m' = nX m ∧ nS m' = nS m) → K (some (vI (iZ (-30 - e.1)))) m')
    (hS : ∀ m' p', (0 ≤ N ∧ N ≤ td) → pAll tp N.toNat = .inr p' → POK tp N.toNat p' p'.1.2.1 → SRep m' sb p'.2.2.2 → gI m' 0 0 5 = iZ 0 → gI m' 0 0 6 = iZ (-1) → gI m' 1 1 1 = iZ 0 → gP m' 0 0 2 = some (10, sb) → gP m' 0 0 3 = some (10, sa) → gI m' 4 4 3 = iZ 1 → FX (AE sb) BE m m' → (nX m' = nX m ∧ nS m' = nS m) → K (some (vI (iZ p'.2.2.2.1))) m') : smC true 90 [vR (some (0, 0)), vI x] m K := by
  subst hx
  refine smC_wp [some (vR (some (0, 0))), some (vI (iZ N)), none, none] cd_90 [15, 18] 60 OK_90 (by decide) rfl rfl (Nat.le_of_ble_eq_true rfl) ?_
  have bad : ¬ (0 ≤ N ∧ N ≤ td) → smE true 90 15 [some (vR (some (0, 0))), some (vI (iZ N)), none, none] [] m K := by
    intro hb
    refine wp_ok (by decide) OK_90 (cc := cd_90) rfl (stops := []) 20 _ _ _ _ ?_
    exact And.intro trivial (hB hb)
  refine And.intro (fun z => ?_) (fun z => ?_)
  · rw [L0, iZ_lt rN (by decide)] at z
    exact And.intro trivial (bad (by omega))
  rw [L0, iZ_lt rN (by decide)] at z
  refine And.intro (fun y => ?_) (fun y => ?_)
  rotate_left
  · rw [e1, iZ_le rN (by constructor <;> omega)] at y
    exact And.intro trivial (bad (by omega))
  rw [e1, iZ_le rN (by constructor <;> omega)] at y
  have hN : 0 ≤ N ∧ N ≤ td := ⟨by omega, y⟩
  refine And.intro trivial ?_
  clear bad hB
  have eN : N = ((N.toNat : Nat) : Int) := by omega
  generalize hnn : N.toNat = n at *
  have hn : n ≤ 800 := by omega
  -- the end: the reader's fault is told
  have fin : ∀ (m1 : Mem) (x2 x3 : Int32) (R : RE PS), FX (AE sb) BE m m1 → (nX m1 = nX m ∧ nS m1 = nS m) → gI m1 1 1 1 = iZ 0 → gP m1 0 0 2 = some (10, sa) → gP m1 0 0 3 = some (10, sb) → gI m1 4 4 3 = gI m 4 4 3 → R = pAll tp n → (∀ e, R = .inl e → FTd m1 e ∧ 1 ≤ e.1 ∧ e.1 ≤ 3) → (∀ pa, R = .inr pa → CS m1 tp n sb pa ∧ POK tp n pa pa.1.2.1) → smE true 90 85 [some (vR (some (0, 0))), some (vI (iZ N)), some (vI x2), some (vI x3)] [] m1 K := by
    intro m1 x2 x3 R F1 x1 t1 ga1 gb1 e43 hR hl hr
    refine wp_ok (by decide) OK_90 (cc := cd_90) rfl (stops := [107]) 60 _ _ _ _ ?_
    refine And.intro trivial ?_
    have FZ : Fr (fun t n k => t = 0 ∧ n = 0 ∧ (k = 5 ∨ k = 6)) m1 (sI (sI m1 0 0 5 (gI m1 1 1 16)) 0 0 6 (gI (sI m1 0 0 5 (gI m1 1 1 16)) 1 1 17)) := (Fr.st ⟨rfl, rfl, Or.inl rfl⟩).tr (Fr.st ⟨rfl, rfl, Or.inr rfl⟩)
    have z5 : gI (sI (sI m1 0 0 5 (gI m1 1 1 16)) 0 0 6 (gI (sI m1 0 0 5 (gI m1 1 1 16)) 1 1 17)) 0 0 5 = gI m1 1 1 16 := by simp only [gI_s]; simp
    have z6 : gI (sI (sI m1 0 0 5 (gI m1 1 1 16)) 0 0 6 (gI (sI m1 0 0 5 (gI m1 1 1 16)) 1 1 17)) 0 0 6 = gI m1 1 1 17 := by simp only [gI_s]; simp
    generalize sI (sI m1 0 0 5 (gI m1 1 1 16)) 0 0 6 (gI (sI m1 0 0 5 (gI m1 1 1 16)) 1 1 17) = m2 at *
    have F2 : FX (AE sb) BE m m2 := F1.tr (Fr.fx (FZ.mono (fun t n k w => Or.inr (Or.inr (Or.inl w)))))
    have x2' : nX m2 = nX m ∧ nS m2 = nS m := ⟨by have := x1.1; unfold nX at this ⊢; rw [FZ.1]; exact this, by have := x1.2; unfold nS at this ⊢; rw [FZ.1]; exact this⟩
    have r2 : ∀ {t n k : Nat}, ¬ t = 0 → gI m2 t n k = gI m1 t n k := fun hk => FZ.2 _ _ _ (by omega)
    have p2 : ∀ t n k, gP m2 t n k = gP m1 t n k := fun t n k => Fr_gP FZ t n k
    refine wp1_ok (by decide) OK_90 (cc := cd_90) rfl (stops := []) (f := 60) ?_
    cases hRR : R with
    | inl e =>
      have hl := hl e hRR
      have r5 : gI m2 0 0 5 = iZ e.1 := z5.trans hl.1.1
      have r6 : gI m2 0 0 6 = iZ e.2 := z6.trans hl.1.2
      refine And.intro (fun w => ?_) (fun w => ?_)
      · rw [r5, L0, iZ_eq (by constructor <;> omega) (by decide)] at w; omega
      refine And.intro trivial ?_
      rw [r5, LM30, iZ_sub]
      exact hF m2 e hN (by rw [← hR]; exact hRR) r5 r6 ((r2 (by omega)).trans t1) ((p2 _ _ _).trans ga1) ((p2 _ _ _).trans gb1) ((r2 (by omega)).trans e43) F2 x2'
    | inr pa =>
      have hr := hr pa hRR
      have r5 : gI m2 0 0 5 = iZ 0 := z5.trans hr.1.1.1.2.1
      have r6 : gI m2 0 0 6 = iZ (-1) := z6.trans hr.1.1.1.2.2
      have hSR : SRep m1 sb pa.2.2.2 := hr.1.2.2.2.1
      have S2 : SRep m2 sb pa.2.2.2 := hSR.frd FZ (fun k => by omega) (fun k => by omega) (fun i k _ => by omega) (fun i k _ => by omega)
      refine And.intro (fun w => ?_) (fun w => absurd r5 w)
      refine Exists.intro _ (And.intro ((p2 _ _ _).trans gb1) ?_)
      refine Exists.intro _ (And.intro ((p2 _ _ _).trans ga1) ?_)
      refine And.intro (Or.inr rfl) ?_
      refine Exists.intro (some (10, sb)) (And.intro rfl ?_)
      refine And.intro trivial ?_
      have GZ : FX (AE sb) BE m2 (sI (sP (sP m2 0 0 3 (some (10, sa))) 0 0 2 (some (10, sb))) 4 4 3 1) := ((FX.stP (Or.inr ⟨rfl, rfl, Or.inr rfl⟩)).tr (FX.stP (Or.inr ⟨rfl, rfl, Or.inl rfl⟩))).tr (FX.stI (Or.inr (Or.inr (Or.inr ⟨rfl, rfl, rfl⟩))))
      have gi : ∀ t n k, ¬ (t = 4 ∧ n = 4 ∧ k = 3) → gI (sI (sP (sP m2 0 0 3 (some (10, sa))) 0 0 2 (some (10, sb))) 4 4 3 1) t n k = gI m2 t n k := by
        intro t n k hk
        rw [gI_s, if_neg (by omega)]; rfl
      have S3 : SRep (sI (sP (sP m2 0 0 3 (some (10, sa))) 0 0 2 (some (10, sb))) 4 4 3 1) sb pa.2.2.2 := by
        obtain ⟨⟨a1, a2, a3⟩, b, c⟩ := S2
        refine ⟨⟨(gi _ _ _ (by omega)).trans a1, (gi _ _ _ (by omega)).trans a2, (gi _ _ _ (by omega)).trans a3⟩, fun i hi => ?_, fun k hk => (gi _ _ _ (by omega)).trans (c k hk)⟩
        have := b i hi
        have r8 : ∀ n k, gI (sI (sP (sP m2 0 0 3 (some (10, sa))) 0 0 2 (some (10, sb))) 4 4 3 1) 8 n k = gI m2 8 n k := fun n k => gi 8 n k (by omega)
        have r9 : ∀ n k, gI (sI (sP (sP m2 0 0 3 (some (10, sa))) 0 0 2 (some (10, sb))) 4 4 3 1) 9 n k = gI m2 9 n k := fun n k => gi 9 n k (by omega)
        unfold NRep at this ⊢
        simp only [r8, r9]
        exact this
      have hout := hS (sI (sP (sP m2 0 0 3 (some (10, sa))) 0 0 2 (some (10, sb))) 4 4 3 1) pa hN (by rw [← hR]; exact hRR) hr.2 S3 ((gi _ _ _ (by omega)).trans r5) ((gi _ _ _ (by omega)).trans r6) ((gi _ _ _ (by omega)).trans ((r2 (by omega)).trans t1)) rfl rfl (by rw [gI_s, if_pos ⟨rfl, rfl, rfl⟩]; rfl) (F2.tr GZ) ⟨x2'.1, x2'.2⟩
      have e10 : gI (sI (sP (sP m2 0 0 3 (some (10, sa))) 0 0 2 (some (10, sb))) 4 4 3 1) 10 sb 1 = iZ pa.2.2.2.1 := S3.1.1
      rw [e10]
      exact hout
  -- between the lines
  have bx : ∀ {ma mb : Mem}, (FX (AE sb) BE m ma ∧ (nX ma = nX m ∧ nS ma = nS m) ∧ gI ma 1 1 1 = iZ 0 ∧ gP ma 0 0 2 = some (10, sa) ∧ gP ma 0 0 3 = some (10, sb) ∧ gI ma 4 4 3 = gI m 4 4 3) → Fr (AD sb) ma mb → (FX (AE sb) BE m mb ∧ (nX mb = nX m ∧ nS mb = nS m) ∧ gI mb 1 1 1 = iZ 0 ∧ gP mb 0 0 2 = some (10, sa) ∧ gP mb 0 0 3 = some (10, sb) ∧ gI mb 4 4 3 = gI m 4 4 3) := by
    rintro ma mb ⟨a1, ⟨a2, a3⟩, a4, a5, a6, a7⟩ F
    refine ⟨a1.tr (Fr.fx (F.mono (fun t n k w => Or.inl w))), ⟨?_, ?_⟩, (F.2 _ _ _ (by unfold AD; omega)).trans a4, (Fr_gP F _ _ _).trans a5, (Fr_gP F _ _ _).trans a6, (F.2 _ _ _ (by unfold AD; omega)).trans a7⟩
    · unfold nX at a2 ⊢; rw [F.1]; exact a2
    · unfold nS at a3 ⊢; rw [F.1]; exact a3
  have bad34 : ∀ (m1 : Mem) (k : Nat) (e : Int × Nat), k ≤ n + 1 → (FX (AE sb) BE m m1 ∧ (nX m1 = nX m ∧ nS m1 = nS m) ∧ gI m1 1 1 1 = iZ 0 ∧ gP m1 0 0 2 = some (10, sa) ∧ gP m1 0 0 3 = some (10, sb) ∧ gI m1 4 4 3 = gI m 4 4 3) → FTd m1 e → EOK e → .inl e = pAll tp n → smE true 90 34 [some (vR (some (0, 0))), some (vI (iZ N)), some (vI 0), some (vI (iZ k))] [] m1 K := by
    rintro m1 k e hk ⟨a1, a2, a4, a5, a6, a7⟩ hf he hR
    have g85 : smE true 90 85 [some (vR (some (0, 0))), some (vI (iZ N)), some (vI 0), some (vI (iZ k))] [] m1 K := fin m1 0 (iZ k) (.inl e) a1 a2 a4 a5 a6 a7 hR (fun e' h' => by cases h'; exact ⟨hf, he.1, he.2⟩) (fun pa h' => by cases h')
    refine wp1_ok (by decide) OK_90 (cc := cd_90) rfl (stops := [34, 85]) (f := 60) ?_
    refine And.intro (fun _ => And.intro trivial g85) (fun _ => ?_)
    refine And.intro (fun _ => And.intro trivial g85) (fun w => absurd rfl w)
  have loop : ∀ (f k : Nat) (m1 : Mem) (pa : PS), k + f = n + 1 → CS m1 tp n sb pa → POK tp n pa pa.1.2.1 → (FX (AE sb) BE m m1 ∧ (nX m1 = nX m ∧ nS m1 = nS m) ∧ gI m1 1 1 1 = iZ 0 ∧ gP m1 0 0 2 = some (10, sa) ∧ gP m1 0 0 3 = some (10, sb) ∧ gI m1 4 4 3 = gI m 4 4 3) → pText tp n f pa = pAll tp n → smE true 90 34 [some (vR (some (0, 0))), some (vI (iZ N)), some (vI 1), some (vI (iZ k))] [] m1 K := by
    intro f
    induction f with
    | zero =>
      intro k m1 pa hk hC hP hbx hR
      obtain ⟨a1, a2, a4, a5, a6, a7⟩ := id hbx
      unfold pText at hR
      refine wp1_ok (by decide) OK_90 (cc := cd_90) rfl (stops := [34, 85]) (f := 60) ?_
      refine And.intro (fun _ => ?_) (fun w => ?_)
      · exact And.intro trivial (fin m1 1 (iZ k) (.inr pa) a1 a2 a4 a5 a6 a7 hR (fun e' h' => by cases h') (fun pb h' => by cases h'; exact ⟨hC, hP⟩))
      · rw [eN, iZ_lt (by constructor <;> omega) (by constructor <;> omega)] at w; omega
    | succ f ih =>
      intro k m1 pa hk hC hP hbx hR
      obtain ⟨a1, a2, a4, a5, a6, a7⟩ := id hbx
      unfold pText at hR
      refine wp1_ok (by decide) OK_90 (cc := cd_90) rfl (stops := [34, 85]) (f := 60) ?_
      refine And.intro (fun w => ?_) (fun _ => ?_)
      · rw [eN, iZ_lt (by constructor <;> omega) (by constructor <;> omega)] at w; omega
      refine And.intro (fun w => absurd w (by decide)) (fun _ => ?_)
      refine And.intro trivial (c_hasMore hP.1 hC (fun w => ?_) (fun w => ?_))
      rotate_left
      · refine And.intro (fun _ => ?_) (fun u => absurd rfl u)
        rw [if_pos w] at hR
        exact And.intro trivial (fin m1 1 (iZ k) (.inr pa) a1 a2 a4 a5 a6 a7 hR (fun e' h' => by cases h') (fun pb h' => by cases h'; exact ⟨hC, hP⟩))
      rw [if_neg w] at hR
      refine And.intro (fun u => absurd u (by decide)) (fun _ => ?_)
      refine And.intro trivial (c_readLine hT hn hP hC (fun m2 e h2 f2 F2 => ?_) (fun m2 pb h2 C2 F2 => ?_))
      · refine And.intro (fun _ => ?_) (fun u => absurd rfl u)
        refine And.intro trivial ?_
        rw [L1, iZ_add]
        have hl : pLine tp n pa = .inl e := by unfold pLine; rw [h2]
        rw [hl] at hR
        exact bad34 m2 (k + 1) e (by omega) (bx hbx F2) f2 (pBodyL_e h2) hR
      · refine And.intro (fun u => absurd u (by decide)) (fun _ => ?_)
        have ob := pBodyL_ok hT hn hP h2
        refine And.intro trivial (c_closeLine hT hn ob.1.1 C2 (fun m3 h3 f3 F3 => ?_) (fun m3 h3 C3 F3 => ?_))
        · refine And.intro (fun _ => ?_) (fun u => absurd rfl u)
          refine And.intro trivial ?_
          rw [L1, iZ_add]
          have hl : pLine tp n pa = .inl (1, pb.1.2.1) := by unfold pLine; rw [h2]; simp only; rw [if_neg h3]
          rw [hl] at hR
          exact bad34 m3 (k + 1) _ (by omega) (bx (bx hbx F2) F3) f3 (ek1 _) hR
        · refine And.intro (fun u => absurd u (by decide)) (fun _ => ?_)
          refine And.intro trivial ?_
          rw [L1, iZ_add]
          have hl : pLine tp n pa = .inr (nx tp n pb.1, pb.2) := by unfold pLine; rw [h2]; simp only; rw [if_pos h3]
          rw [hl] at hR
          exact ih (k + 1) m3 (nx tp n pb.1, pb.2) (by omega) C3 (pLine_ok hT hn hP hl).1 (bx (bx hbx F2) F3) hR
  refine wp1_ok (by decide) OK_90 (cc := cd_90) rfl (stops := [34]) (f := 60) ?_
  refine Exists.intro _ (And.intro gb ?_)
  refine And.intro trivial (c_startR (sn := sb) (n := n) (by rw [eN]) hT hn hc (fun m1 C1 t1 F1 x1 => ?_))
  refine And.intro trivial ?_
  refine loop (n + 1) 0 m1 (p00 tp n) (by omega) C1 (p00_ok hT hn) ⟨F1.mono (fun t n k w => by rcases w with w | w; exact Or.inl w; exact Or.inr (Or.inl w)) (fun t n k w => Or.inl w), x1, t1, (F1.2.2.1 0 0 2 (by omega) (by unfold BE0; omega)).trans ga, (F1.2.2.1 0 0 3 (by omega) (by unfold BE0; omega)).trans gb, F1.2.1 4 4 3 (by omega) (by unfold AE0 AD; omega)⟩ rfl
end CTEXT3
