/-! THE MODEL's reader: a row of `read`, graces, prefixes -/
def MRow (m : Mem) (r : Nat) (g : Nat → Int32) : Prop := ∀ w, w < 30 → gI m 30 238 (r + w) = g w
def AZr (r : Nat) : Nat → Nat → Nat → Prop := fun t n k => AZt t n k ∨ (t = 30 ∧ n = 238 ∧ r ≤ k ∧ k < r + 30)
theorem AZt_AZr {r t n k : Nat} (h : AZt t n k) : AZr r t n k := Or.inl h
def preG (g : Nat → Int32) (pf : Int) (gs : Nat → Int × Int × Int) : Nat → Int32 := fun w => if w = 11 then iZ pf else if w < 18 then g w else if w < 22 then iZ (gs (w - 18)).1 else if w < 26 then iZ (gs (w - 22)).2.1 else iZ (gs (w - 26)).2.2
section MPREF
variable {m : Mem} {K : Option SV → Mem → Prop} {tp : Nat → Int} {n r : Nat} {t : TK} {key : Int} {told : Nat → Int} {g : Nat → Int32}
theorem MRow.fr {A : Nat → Nat → Nat → Prop} {m' : Mem} (h : MRow m r g) (F : Fr A m m') (hA : ∀ n k, ¬ A 30 n k) : MRow m' r g := fun w hw => (F.2 _ _ _ (hA _ _)).trans (h w hw)
theorem M_takes {w : Nat} {x y v : Int32} (hx : x = iZ r) (hy : y = iZ w) (hr : r + w < 1634) (h : K none (sI m 30 238 (r + w) v)) : smC true 150 [vR (some (23, 231)), vI x, vI y, vI v] m K := by
  subst hx; subst hy
  have e : iZ (r : Int) + iZ (w : Int) = iZ ((r + w : Nat) : Int) := by rw [iZ_add]; congr 1
  refine smC_wp [some (vR (some (23, 231))), some (vI (iZ r)), some (vI (iZ w)), some (vI v)] cd_150 [] 30 OK_150 (by decide) rfl rfl (Nat.le_of_ble_eq_true rfl) ?_
  refine And.intro (by rw [e]; exact (iZ_in (by constructor <;> omega)).mpr (by omega)) ?_
  refine And.intro trivial ?_
  rw [e, iZ_clamp (by constructor <;> omega), show ((r + w : Nat) : Int).toNat = r + w by omega]
  exact h
theorem MRow.tk {w : Nat} {v : Int32} (h : MRow m r g) (hw : w < 30) : MRow (sI m 30 238 (r + w) v) r (upd g w v) := by
  intro j hj
  rw [gI_s]
  by_cases e : j = w
  · subst e; rw [if_pos ⟨rfl, rfl, rfl⟩]; simp [upd]
  · rw [if_neg (by omega)]; rw [h j hj]; simp [upd, e]
theorem fr30 {w : Nat} {v : Int32} : Fr (fun t n k => t = 30 ∧ n = 238 ∧ k = r + w) m (sI m 30 238 (r + w) v) := Fr.st ⟨rfl, rfl, rfl⟩
/-- what stands around the row -/
def MRB (m : Mem) (key : Int) : Prop := MB m ∧ MWd m ∧ gI m 23 231 22 = iZ key
theorem MRB.fr {A : Nat → Nat → Nat → Prop} {m' : Mem} (h : MRB m key) (F : Fr A m m') (hA : ∀ t n k, t = 27 ∨ t = 28 ∨ t = 32 → ¬ A t n k) (hB : ¬ A 23 231 22) : MRB m' key :=
  ⟨h.1.fr F (fun t n k z => hA t n k (by omega)), fun k hk => (F.2 _ _ _ (hA _ _ _ (by omega))).trans (h.2.1 k hk), (F.2 _ _ _ hB).trans h.2.2⟩
theorem MRB.az {m' : Mem} (h : MRB m key) (F : Fr AZt m m') : MRB m' key := h.fr F (fun t n k z => by unfold AZt AWr; omega) (by unfold AZt AWr; omega)
theorem preG_up {gs : Nat → Int × Int × Int} {j : Nat} {x : Int × Int × Int} (hj : j < 4) : ∀ w, w < 30 → upd (upd (upd (preG g 0 gs) (18 + j) (iZ x.1)) (22 + j) (iZ x.2.1)) (26 + j) (iZ x.2.2) w = preG g 0 (upq gs j x) w := by
  intro w hw
  unfold preG upd upq
  by_cases e1 : w = 26 + j
  · subst e1
    rw [if_pos rfl, if_neg (by omega), if_neg (by omega), if_neg (by omega), if_neg (by omega), show 26 + j - 26 = j by omega, if_pos rfl]
  · rw [if_neg e1]
    by_cases e2 : w = 22 + j
    · subst e2
      rw [if_pos rfl, if_neg (by omega), if_neg (by omega), if_neg (by omega), if_pos (by omega), show 22 + j - 22 = j by omega, if_pos rfl]
    · rw [if_neg e2]
      by_cases e3 : w = 18 + j
      · subst e3
        rw [if_pos rfl, if_neg (by omega), if_neg (by omega), if_pos (by omega), show 18 + j - 18 = j by omega, if_pos rfl]
      · rw [if_neg e3]
        dsimp only
        by_cases c0 : w = 11
        · rw [if_pos c0, if_pos c0]
        · rw [if_neg c0, if_neg c0]
          by_cases c1 : w < 18
          · rw [if_pos c1, if_pos c1]
          · rw [if_neg c1, if_neg c1]
            by_cases c2 : w < 22
            · rw [if_pos c2, if_pos c2, if_neg (by omega)]
            · rw [if_neg c2, if_neg c2]
              by_cases c3 : w < 26
              · rw [if_pos c3, if_pos c3, if_neg (by omega)]
              · rw [if_neg c3, if_neg c3, if_neg (by omega)]
theorem M_grace {j : Nat} {gs : Nat → Int × Int × Int} {x y : Int32} (hx : x = iZ r) (hy : y = iZ j) (hj : j < 4) (hr : r + 30 ≤ 1634) (h0 : MOk m) (hB : MRB m key) (rk : -7 ≤ key ∧ key ≤ 7) (htd : TDOK told) (hto : MTo m told) (hT : TPOK tp) (hn : n ≤ 800) (ht : TOK tp n t) (hR : MRS m tp n t) (hW : MRow m r (preG g 0 gs))
    (hF : ∀ m' e, pPitch tp n key told t = .inl e → MFt m' e → MRow m' r (preG g 0 gs) → Fr (AZr r) m m' → K none m') (hS : ∀ m' z told' t', pPitch tp n key told t = .inr (z, told', t') → MRS m' tp n t' → MOk m' → MTo m' told' → MRB m' key → MRow m' r (preG g 0 (upq gs j z)) → Fr (AZr r) m m' → K none m') : smC true 160 [vR (some (23, 231)), vI x, vI y] m K := by
  subst hx; subst hy
  refine smC_wp [some (vR (some (23, 231))), some (vI (iZ r)), some (vI (iZ j))] cd_160 [] 60 OK_160 (by decide) rfl rfl (Nat.le_of_ble_eq_true rfl) ?_
  refine And.intro trivial (M_readsTone h0 hB.1 rk hB.2.2 htd hto hT hn ht hR (fun m1 e h1 f1 F1 => ?_) (fun m1 z told1 ta h1 R1 o1 T1 y27 y28 y29 F1 => ?_))
  · refine And.intro (fun q => absurd q (bad_ne f1 (pPitch_e h1))) (fun _ => ?_)
    exact And.intro trivial (hF m1 e h1 f1 (hW.fr F1 (fun n k => by unfold AZt AWr; omega)) (F1.mono (fun t n k z => AZt_AZr z)))
  have W1 := hW.fr F1 (fun n k => by unfold AZt AWr; omega)
  refine And.intro (fun _ => ?_) (fun q => absurd o1.1 q)
  refine And.intro trivial (M_takes (r := r) (w := 18 + j) rfl (by rw [L18, iZ_add]; congr 1) (by omega) ?_)
  refine And.intro trivial (M_takes (r := r) (w := 22 + j) rfl (by rw [L22, iZ_add]; congr 1) (by omega) ?_)
  refine And.intro trivial (M_takes (r := r) (w := 26 + j) rfl (by rw [L26, iZ_add]; congr 1) (by omega) ?_)
  refine And.intro trivial ?_
  have k28 : gI (sI m1 30 238 (r + (18 + j)) (gI m1 23 231 27)) 23 231 28 = iZ z.2.1 := by rw [gI_s, if_neg (by omega)]; exact y28
  have k29 : gI (sI (sI m1 30 238 (r + (18 + j)) (gI m1 23 231 27)) 30 238 (r + (22 + j)) (gI (sI m1 30 238 (r + (18 + j)) (gI m1 23 231 27)) 23 231 28)) 23 231 29 = iZ z.2.2 := by rw [gI_s, if_neg (by omega), gI_s, if_neg (by omega)]; exact y29
  rw [k29, k28, y27]
  have W4 := ((W1.tk (w := 18 + j) (v := iZ z.1) (by omega)).tk (w := 22 + j) (v := iZ z.2.1) (by omega)).tk (w := 26 + j) (v := iZ z.2.2) (by omega)
  have FW : Fr (fun t n k => t = 30 ∧ n = 238 ∧ r ≤ k ∧ k < r + 30) m1 (sI (sI (sI m1 30 238 (r + (18 + j)) (iZ z.1)) 30 238 (r + (22 + j)) (iZ z.2.1)) 30 238 (r + (26 + j)) (iZ z.2.2)) := ((Fr.st ⟨rfl, rfl, by omega⟩).tr (Fr.st ⟨rfl, rfl, by omega⟩)).tr (Fr.st ⟨rfl, rfl, by omega⟩)
  refine hS _ z told1 ta h1 (R1.fr FW (fun n k => by omega) (fun k hk => by omega)) ((MOk.fr o1 FW (by omega) (by omega))) (fun s hs => (FW.2 _ _ _ (by omega)).trans (T1 s hs)) ((hB.az F1).fr FW (fun t n k w => by omega) (by omega)) (fun w hw => (W4 w hw).trans (preG_up hj w hw)) ((F1.mono (fun t n k z => AZt_AZr z)).tr (FW.mono (fun t n k w => Or.inr w)))
theorem M_grace1 {x y : Int32} (h0 : MBad m) (h : K none m) : smC true 160 [vR (some (23, 231)), vI x, vI y] m K := by
  refine smC_wp [some (vR (some (23, 231))), some (vI x), some (vI y)] cd_160 [] 60 OK_160 (by decide) rfl rfl (Nat.le_of_ble_eq_true rfl) ?_
  refine And.intro trivial (M_readsTone1 h0 ?_)
  refine And.intro (fun q => absurd q h0.ne) (fun _ => ?_)
  exact And.intro trivial h
theorem preG_pf {gs : Nat → Int × Int × Int} {pf : Int} : ∀ w, w < 30 → upd (preG g 0 gs) 11 (iZ pf) w = preG g pf gs w := by
  intro w hw
  unfold preG upd
  by_cases e : w = 11
  · rw [if_pos e, if_pos e]
  · rw [if_neg e]; dsimp only; rw [if_neg e, if_neg e]
/-- prefix(row) -/
theorem M_prefixR {x : Int32} (hx : x = iZ r) (hr : r + 30 ≤ 1634) (h0 : MOk m) (hB : MRB m key) (rk : -7 ≤ key ∧ key ≤ 7) (htd : TDOK told) (hto : MTo m told) (hT : TPOK tp) (hn : n ≤ 800) (ht : TOK tp n t) (hR : MRS m tp n t) (hW : MRow m r (preG g 0 g0))
    (hF : ∀ m' e, pPre tp n key told t = .inl e → MFt m' e → Fr (AZr r) m m' → K none m') (hS : ∀ m' pf gs told' t', pPre tp n key told t = .inr (pf, gs, told', t') → MRS m' tp n t' → MOk m' → MTo m' told' → MRB m' key → MRow m' r (preG g pf gs) → Fr (AZr r) m m' → K none m') : smC true 158 [vR (some (23, 231)), vI x] m K := by
  subst hx
  unfold pPre at hF hS
  have a2 := nx_ok hT hn ht
  have au : ∀ {ma : Mem}, Fr AU m ma → Fr AZt m ma := fun F => F.mono (fun t n k z => AWr_AZt (AU_AWr z))
  -- the prefix's number is laid
  have lay : ∀ (mz : Mem) (pf : Int) (gs : Nat → Int × Int × Int) (v : Int32), v = iZ pf → MRow mz r (preG g 0 gs) → MRow (sI mz 30 238 (r + 11) v) r (preG g pf gs) := by
    intro mz pf gs v hv hz w hw
    have := (hz.tk (w := 11) (v := v) (by decide)) w hw
    rw [this, hv]; exact preG_pf w hw
  have frl : ∀ {mz : Mem} {v : Int32}, Fr (fun t n k => t = 30 ∧ n = 238 ∧ r ≤ k ∧ k < r + 30) mz (sI mz 30 238 (r + 11) v) := fun {mz v} => Fr.st ⟨rfl, rfl, by omega⟩
  have fz : ∀ {mz : Mem} {v : Int32}, Fr (AZr r) mz (sI mz 30 238 (r + 11) v) := fun {mz v} => frl.mono (fun t n k w => Or.inr w)
  -- wrong within the graces
  have bad41 : ∀ (mz : Mem) (e : Int × Nat) (k : Int32), MFt mz e → Fr (AZr r) m mz → (∀ m', MFt m' e → Fr (AZr r) m m' → K none m') → smE true 158 41 [some (vR (some (23, 231))), some (vI (iZ r)), some (vI k)] [] mz K := by
    intro mz e k f F hk
    refine wp_ok (by decide) OK_158 (cc := cd_158) rfl (stops := []) 30 _ _ _ _ ?_
    refine And.intro trivial (M_takes (r := r) (w := 11) rfl rfl (by omega) ?_)
    refine And.intro trivial (hk _ ⟨?_, ?_⟩ (F.tr fz))
    · rw [gI_s, if_neg (by omega)]; exact f.1
    · rw [gI_s, if_neg (by omega)]; exact f.2
  have bad17 : ∀ (mz : Mem) (e : Int × Nat) (k : Nat), k ≤ 4 → MFt mz e → EOK e → Fr (AZr r) m mz → (∀ m', MFt m' e → Fr (AZr r) m m' → K none m') → smE true 158 17 [some (vR (some (23, 231))), some (vI (iZ r)), some (vI (iZ k))] [] mz K := by
    intro mz e k hk4 f he F hk
    have g41 := bad41 mz e (iZ k) f F hk
    refine wp1_ok (by decide) OK_158 (cc := cd_158) rfl (stops := [17, 41]) (f := 30) ?_
    refine And.intro (fun _ => And.intro trivial g41) (fun _ => ?_)
    refine And.intro trivial (M_isLetter1 (MBad.of f he) ?_)
    exact And.intro (fun _ => And.intro trivial g41) (fun u => absurd rfl u)
  have loop : ∀ (f k : Nat) (told : Nat → Int) (gs : Nat → Int × Int × Int) (t1 : TK) (mz : Mem) (X : RE (Nat × (Nat → Int × Int × Int) × (Nat → Int) × TK)), k + f = 4 → TOK tp n t1 → TDOK told → MRS mz tp n t1 → MOk mz → MTo mz told → MRB mz key → MRow mz r (preG g 0 gs) → Fr (AZr r) m mz → X = (if k < 4 ∧ 0 ≤ letT tp t1 then pGrs tp n key f k told gs t1 else .inr (k, gs, told, t1)) → (∀ m' e, X = .inl e → MFt m' e → Fr (AZr r) m m' → K none m') → (∀ m' k' gs' told' t', X = .inr (k', gs', told', t') → MRS m' tp n t' → MOk m' → MTo m' told' → MRB m' key → MRow m' r (preG g (k' : Int) gs') → Fr (AZr r) m m' → K none m') → smE true 158 17 [some (vR (some (23, 231))), some (vI (iZ r)), some (vI (iZ k))] [] mz K := by
    intro f
    induction f with
    | zero =>
      intro k told gs t1 mz X hk ht1 htd1 R1 o1 T1 B1 W1 F1 hX kF kS
      rw [if_neg (by omega)] at hX
      refine wp1_ok (by decide) OK_158 (cc := cd_158) rfl (stops := [17]) (f := 30) ?_
      refine And.intro (fun _ => ?_) (fun u => ?_)
      rotate_left
      · rw [L4, iZ_le (by decide) (by constructor <;> omega)] at u; omega
      refine And.intro trivial (M_takes (r := r) (w := 11) rfl rfl (by omega) ?_)
      refine And.intro trivial (kS _ _ _ _ _ hX (R1.fr frl (fun n k => by omega) (fun k hk => by omega)) ((MOk.fr o1 frl (by omega) (by omega))) (fun s hs => (frl.2 _ _ _ (by omega)).trans (T1 s hs)) (B1.fr frl (fun t n k w => by omega) (by omega)) (lay mz _ gs _ rfl W1) (F1.tr fz))
    | succ f ih =>
      intro k told gs t1 mz X hk ht1 htd1 R1 o1 T1 B1 W1 F1 hX kF kS
      refine wp1_ok (by decide) OK_158 (cc := cd_158) rfl (stops := [17]) (f := 30) ?_
      refine And.intro (fun u => ?_) (fun _ => ?_)
      · rw [L4, iZ_le (by decide) (by constructor <;> omega)] at u; omega
      refine And.intro trivial (M_isLetter o1 hn ht1 R1 (fun w _ => ?_) (fun w => ?_))
      rotate_left
      · rw [if_neg (by omega)] at hX
        refine And.intro (fun _ => ?_) (fun u => absurd rfl u)
        refine And.intro trivial (M_takes (r := r) (w := 11) rfl rfl (by omega) ?_)
        refine And.intro trivial (kS _ _ _ _ _ hX (R1.fr frl (fun n k => by omega) (fun k hk => by omega)) ((MOk.fr o1 frl (by omega) (by omega))) (fun s hs => (frl.2 _ _ _ (by omega)).trans (T1 s hs)) (B1.fr frl (fun t n k w => by omega) (by omega)) (lay mz _ gs _ rfl W1) (F1.tr fz))
      rw [if_pos ⟨by omega, w⟩] at hX
      unfold pGrs at hX
      refine And.intro (fun u => absurd u (by decide)) (fun _ => ?_)
      refine And.intro trivial (M_grace (r := r) (j := k) (gs := gs) rfl rfl (by omega) hr o1 B1 rk htd1 T1 hT hn ht1 R1 W1 (fun m2 e h2 f2 W2 F2 => ?_) (fun m2 z told2 tb h2 R2 o2 T2 B2 W2 F2 => ?_))
      · refine And.intro trivial ?_
        rw [L1, iZ_add]
        rw [h2] at hX
        exact bad17 m2 e (k + 1) (by omega) f2 (pPitch_e h2) (F1.tr F2) (fun m' f' F' => kF m' e hX f' F')
      · refine And.intro trivial ?_
        rw [L1, iZ_add]
        rw [h2] at hX
        simp only at hX
        have ok := pPitch_ok hT hn ht1 htd1 h2
        exact ih (k + 1) told2 (upq gs k z) tb m2 X (by omega) ok.2.2.2.1 ok.2.2.1 R2 o2 T2 B2 W2 (F1.tr F2) hX kF kS
  refine smC_wp [some (vR (some (23, 231))), some (vI (iZ r)), none] cd_158 [17] 60 OK_158 (by decide) rfl rfl (Nat.le_of_ble_eq_true rfl) ?_
  refine And.intro trivial (M_passes (k := 6) rfl (by decide) h0 hB.2.1 hT hn ht hR (fun m1 w R1 F1 => ?_) (fun w => ?_))
  · have n8 : ¬ isW tp 8 t = true := fun u => absurd (isW_one (by decide) (by decide) w u) (by decide)
    rw [if_neg n8, if_pos w] at hF hS
    have G1 := au F1
    refine And.intro (fun u => absurd u (by decide)) (fun _ => ?_)
    refine And.intro trivial (M_grace (r := r) (j := 0) (gs := g0) rfl rfl (by decide) hr (h0.au F1) (hB.az G1) rk htd (fun s hs => (F1.2 _ _ _ (by unfold AU; omega)).trans (hto s hs)) hT hn a2.1 R1 (hW.fr F1 (fun n k => by unfold AU; omega)) (fun m2 e h2 f2 W2 F2 => ?_) (fun m2 z told2 tb h2 R2 o2 T2 B2 W2 F2 => ?_))
    · refine And.intro trivial ?_
      have hX : pGrs tp n key 4 0 told g0 (nx tp n t) = .inl e := by unfold pGrs; rw [h2]
      rw [hX] at hF
      exact bad17 m2 e 1 (by decide) f2 (pPitch_e h2) ((G1.mono (fun t n k z => AZt_AZr z)).tr F2) (fun m' f' F' => hF m' e rfl f' F')
    · refine And.intro trivial ?_
      have ok := pPitch_ok hT hn a2.1 htd h2
      have hX : pGrs tp n key 4 0 told g0 (nx tp n t) = (if 1 < 4 ∧ 0 ≤ letT tp tb then pGrs tp n key 3 1 told2 (upq g0 0 z) tb else .inr (1, upq g0 0 z, told2, tb)) := by
        show pGrs tp n key (3 + 1) 0 told g0 (nx tp n t) = _
        unfold pGrs; rw [h2]; rfl
      refine loop 3 1 told2 (upq g0 0 z) tb m2 (pGrs tp n key 4 0 told g0 (nx tp n t)) rfl ok.2.2.2.1 ok.2.2.1 R2 o2 T2 B2 W2 ((G1.mono (fun t n k z => AZt_AZr z)).tr F2) hX (fun m' e he f' F' => hF m' e (by rw [he]) f' F') (fun m' k' gs' told' t' he R' o' T' B' W' F' => hS m' (k' : Int) gs' told' t' (by rw [he]) R' o' T' B' W' F')
  refine And.intro (fun _ => ?_) (fun u => absurd rfl u)
  refine And.intro trivial (M_passes (k := 7) rfl (by decide) h0 hB.2.1 hT hn ht hR (fun m1 w2 R1 F1 => ?_) (fun w2 => ?_))
  · have n8 : ¬ isW tp 8 t = true := fun u => absurd (isW_one (by decide) (by decide) w2 u) (by decide)
    rw [if_neg n8, if_neg w, if_pos w2] at hF hS
    have G1 := au F1
    refine And.intro (fun u => absurd u (by decide)) (fun _ => ?_)
    refine And.intro trivial (M_grace (r := r) (j := 0) (gs := g0) rfl rfl (by decide) hr (h0.au F1) (hB.az G1) rk htd (fun s hs => (F1.2 _ _ _ (by unfold AU; omega)).trans (hto s hs)) hT hn a2.1 R1 (hW.fr F1 (fun n k => by unfold AU; omega)) (fun m2 e h2 f2 W2 F2 => ?_) (fun m2 z told2 tb h2 R2 o2 T2 B2 W2 F2 => ?_))
    · rw [h2] at hF
      refine And.intro trivial (M_takes (r := r) (w := 11) rfl rfl (by omega) ?_)
      refine And.intro trivial (hF _ e rfl ⟨?_, ?_⟩ (((G1.mono (fun t n k z => AZt_AZr z)).tr F2).tr fz))
      · rw [gI_s, if_neg (by omega)]; exact f2.1
      · rw [gI_s, if_neg (by omega)]; exact f2.2
    · rw [h2] at hS
      refine And.intro trivial (M_takes (r := r) (w := 11) rfl rfl (by omega) ?_)
      refine And.intro trivial (hS _ _ _ _ _ rfl (R2.fr frl (fun n k => by omega) (fun k hk => by omega)) ((MOk.fr o2 frl (by omega) (by omega))) (fun s hs => (frl.2 _ _ _ (by omega)).trans (T2 s hs)) (B2.fr frl (fun t n k w => by omega) (by omega)) (lay m2 5 (upq g0 0 z) _ rfl W2) (((G1.mono (fun t n k z => AZt_AZr z)).tr F2).tr fz))
  refine And.intro (fun _ => ?_) (fun u => absurd rfl u)
  refine And.intro trivial (M_passes (k := 8) rfl (by decide) h0 hB.2.1 hT hn ht hR (fun m1 w3 R1 F1 => ?_) (fun w3 => ?_))
  · rw [if_pos w3] at hS
    have G1 := au F1
    refine And.intro (fun u => absurd u (by decide)) (fun _ => ?_)
    refine And.intro trivial (M_takes (r := r) (w := 11) rfl rfl (by omega) ?_)
    refine And.intro trivial (hS _ _ _ _ _ rfl (R1.fr frl (fun n k => by omega) (fun k hk => by omega)) (MOk.fr (h0.au F1) frl (by omega) (by omega)) (fun s hs => (frl.2 _ _ _ (by omega)).trans ((F1.2 _ _ _ (by unfold AU; omega)).trans (hto s hs))) ((hB.az G1).fr frl (fun t n k w => by omega) (by omega)) (lay m1 6 g0 _ rfl (hW.fr F1 (fun n k => by unfold AU; omega))) ((G1.mono (fun t n k z => AZt_AZr z)).tr fz))
  · rw [if_neg w3, if_neg w, if_neg w2] at hS
    refine And.intro (fun _ => ?_) (fun u => absurd rfl u)
    exact And.intro trivial (hS m _ _ _ _ rfl hR h0 hto hB hW (Fr.rf _ _))
end MPREF
