/-! THE MODEL's reader: readsBody -/
def ABr (r : Nat) : Nat → Nat → Nat → Prop := fun t n k => AWr t n k ∨ (t = 23 ∧ n = 231 ∧ k = 30) ∨ (t = 30 ∧ n = 238 ∧ r ≤ k ∧ k < r + 30)
section MRBY
variable {m : Mem} {K : Option SV → Mem → Prop} {tp : Nat → Int} {n r : Nat} {t : TK} {g : Nat → Int32}
theorem M_readsBody1 {x : Int32} (h0 : MBad m) (h : ∀ m', MBad m' → Fr (fun t n k => t = 23 ∧ n = 231 ∧ k = 30) m m' → K none m') : smC true 161 [vR (some (23, 231)), vI x] m K := by
  refine smC_wp [some (vR (some (23, 231))), some (vI x), none, none, none] cd_161 [5] 60 OK_161 (by decide) rfl rfl (Nat.le_of_ble_eq_true rfl) ?_
  refine And.intro (Or.inl rfl) ?_
  refine And.intro trivial ?_
  have FZ : Fr (fun t n k => t = 23 ∧ n = 231 ∧ k = 30) m (sI m 23 231 30 0) := Fr.st ⟨rfl, rfl, rfl⟩
  have b1 : MBad (sI m 23 231 30 0) := by
    obtain ⟨e, f1, he⟩ := h0
    exact ⟨e, ⟨(FZ.2 _ _ _ (by omega)).trans f1.1, (FZ.2 _ _ _ (by omega)).trans f1.2⟩, he⟩
  generalize sI m 23 231 30 0 = ma at *
  refine wp1_ok (by decide) OK_161 (cc := cd_161) rfl (stops := []) (f := 60) ?_
  refine And.intro trivial (M_word1' b1 ?_)
  refine And.intro trivial (M_in (v := 21) (lo := 9) (hi := 16) rfl (by decide) (by decide) (by decide) rfl rfl (fun w => by omega) (fun _ => ?_))
  refine And.intro (fun u => absurd rfl u) (fun _ => ?_)
  exact And.intro trivial (h ma b1 FZ)
theorem M_readsBody {x : Int32} (hx : x = iZ r) (hr : r + 30 ≤ 1634) (h0 : MOk m) (hW : MWd m) (hT : TPOK tp) (hn : n ≤ 800) (ht : TOK tp n t) (hR : MRS m tp n t) (hM : MRow m r (bodG g 0 2 2))
    (hF : ∀ m' e, pBody tp n t = .inl e → MFt m' e → Fr (ABr r) m m' → K none m') (hS : ∀ m' bd q t', pBody tp n t = .inr (bd, q, t') → MRS m' tp n t' → MOk m' → MWd m' → MRow m' r (bodG g bd q.1 q.2.1) → gI m' 23 231 30 = (if q.2.2 then 1 else 0) → Fr (ABr r) m m' → K none m') : smC true 161 [vR (some (23, 231)), vI x] m K := by
  subst hx
  unfold pBody at hF hS
  have auB : ∀ {ma mb : Mem}, Fr AU ma mb → Fr (ABr r) ma mb := fun F => F.mono (fun t n k z => Or.inl (AU_AWr z))
  have wd : ∀ {ma mb : Mem} {A : Nat → Nat → Nat → Prop}, MWd ma → Fr A ma mb → (∀ n k, ¬ A 32 n k) → MWd mb := fun hw F hA k hk => (F.2 _ _ _ (hA _ _)).trans (hw k hk)
  have loop : ∀ (bd : Int) (X : RE ((Int × Int × Bool) × TK)), (∀ m' e, X = .inl e → MFt m' e → Fr (ABr r) m m' → K none m') → (∀ m' q t', X = .inr (q, t') → MRS m' tp n t' → MOk m' → MWd m' → MRow m' r (bodG g bd q.1 q.2.1) → gI m' 23 231 30 = (if q.2.2 then 1 else 0) → Fr (ABr r) m m' → K none m') → ∀ (f : Nat) (q : Int × Int × Bool) (ta : TK) (mz : Mem) (w : Nat) (x3 x4 : Option SV), (x3 = none ∧ x4 = none ∨ ∃ y3 y4, x3 = some (vI y3) ∧ x4 = some (vI y4)) → w ≤ 21 → (w < 21 → isW tp w ta = true) → (∀ v, v < w → ¬ isW tp v ta = true) → n ≤ ta.2.1 + f → TOK tp n ta → QOK q → MRS mz tp n ta → MOk mz → MWd mz → MRow mz r (bodG g bd q.1 q.2.1) → gI mz 23 231 30 = (if q.2.2 then 1 else 0) → Fr (ABr r) m mz → pSgs tp n f q ta = X → smE true 161 47 [some (vR (some (23, 231))), some (vI (iZ r)), some (vI (iZ w)), x3, x4] [] mz K := by
    intro bd X kF kS f
    induction f with
    | zero =>
      intro q ta mz w x3 x4 hx34 hw21 hwy hwz hpos hta hq R1 o1 W1 M1 e30 F1 hX
      unfold pSgs at hX
      have ht0 : ta.1 = 0 := by
        by_cases z : ta.1 = 0
        · exact z
        · have := hta.2.2.2.1 z; have := hta.2.1; omega
      have hw : w = 21 := by
        rcases Nat.lt_or_ge w 21 with u | u
        · exact absurd (hwy u) (isW_no0 ht0)
        · omega
      subst hw
      refine wp1_ok (by decide) OK_161 (cc := cd_161) rfl (stops := [47]) (f := 30) ?_
      refine And.intro (fun u => absurd u (by decide)) (fun _ => ?_)
      refine And.intro (fun _ => ?_) (fun u => absurd u (by decide))
      exact And.intro trivial (kS mz _ _ hX.symm R1 o1 W1 M1 e30 F1)
    | succ f ih =>
      intro q ta mz w x3 x4 hx34 hw21 hwy hwz hpos hta hq R1 o1 W1 M1 e30 F1 hX
      unfold pSgs at hX
      by_cases hor : isW tp 17 ta = true ∨ isW tp 18 ta = true
      rotate_left
      · rw [if_neg hor] at hX
        have n17 : w ≠ 17 := fun u => hor (Or.inl (by rw [← u]; exact hwy (by omega)))
        have n18 : w ≠ 18 := fun u => hor (Or.inr (by rw [← u]; exact hwy (by omega)))
        refine wp1_ok (by decide) OK_161 (cc := cd_161) rfl (stops := [47]) (f := 30) ?_
        refine And.intro (fun u => ?_) (fun _ => ?_)
        · rw [L17, iZ_eq (by constructor <;> omega) (by decide)] at u; omega
        refine And.intro (fun _ => ?_) (fun u => ?_)
        rotate_left
        · rw [L18, iZ_eq (by constructor <;> omega) (by decide)] at u; omega
        exact And.intro trivial (kS mz _ _ hX.symm R1 o1 W1 M1 e30 F1)
      rw [if_pos hor] at hX
      have a2 := nx_ok hT hn hta
      have a3 := nx_ok hT hn a2.1
      have hs := sgn_rng (nx tp n ta)
      have hpl := hta.2.1
      have hpl2 := a2.1.2.1
      have hw : w = (if isW tp 17 ta = true then 17 else 18) := by
        split
        · rename_i u
          rcases Nat.lt_or_ge w 21 with z | z
          · exact isW_one z (by decide) (hwy z) u
          · exact absurd u (hwz 17 (by omega))
        · rename_i u
          have u2 : isW tp 18 ta = true := by
            rcases hor with v | v
            · exact absurd v u
            · exact v
          rcases Nat.lt_or_ge w 21 with z | z
          · exact isW_one z (by decide) (hwy z) u2
          · exact absurd u2 (hwz 18 (by omega))
      obtain ⟨up, hup⟩ : ∃ up : Bool, up = isW tp 17 ta := ⟨_, rfl⟩
      have wh : ∃ wn : Nat, wn = (if up = true then 13 else 14) := ⟨_, rfl⟩
      obtain ⟨wn, hwn⟩ := wh
      have rwn : wn = 13 ∨ wn = 14 := by rw [hwn]; split <;> simp
      have ew : w = (if up = true then 17 else 18) := by rw [hw, hup]
      -- what stood there
      have old : ∀ {ma : Mem}, MRow ma r (bodG g bd q.1 q.2.1) → gI ma 30 238 (r + wn) = iZ (if up = true then q.1 else q.2.1) := by
        intro ma hma
        have := hma wn (by omega)
        rw [this, hwn]
        cases up with
        | true => rfl
        | false => rfl
      have rold : -1 ≤ (if up = true then q.1 else q.2.1) ∧ (if up = true then q.1 else q.2.1) ≤ 2 := by
        split
        · exact hq.1
        · exact hq.2
      -- from 98 on, for any sign s
      have st98 : ∀ (ma : Mem) (s : Int), MRow ma r (bodG g bd q.1 q.2.1) → gI ma 23 231 30 = (if q.2.2 then 1 else 0) → (∀ mb, MRow mb r (if up = true then bodG g bd s q.2.1 else bodG g bd q.1 s) → gI mb 23 231 30 = (if q.2.2 || decide ((if up = true then q.1 else q.2.1) ≠ 2) then 1 else 0) → Fr (fun t n k => (t = 23 ∧ n = 231 ∧ k = 30) ∨ (t = 30 ∧ n = 238 ∧ r ≤ k ∧ k < r + 30)) ma mb → smE true 161 134 [some (vR (some (23, 231))), some (vI (iZ r)), some (vI (iZ w)), some (vI (iZ wn)), some (vI (iZ s))] [] mb K) → smE true 161 98 [some (vR (some (23, 231))), some (vI (iZ r)), some (vI (iZ w)), some (vI (iZ wn)), some (vI (iZ s))] [] ma K := by
        intro ma s hma e30a hgo
        have ea : iZ (r : Int) + iZ (wn : Int) = iZ ((r + wn : Nat) : Int) := by rw [iZ_add]; congr 1
        have eo : gI ma 30 238 (iZ (r : Int) + iZ (wn : Int)).toNatClampNeg = iZ (if up = true then q.1 else q.2.1) := by
          rw [ea, iZ_clamp (by constructor <;> omega), show ((r + wn : Nat) : Int).toNat = r + wn by omega]; exact old hma
        have lay : ∀ tw : Bool, tw = (q.2.2 || decide ((if up = true then q.1 else q.2.1) ≠ 2)) → smE true 161 123 [some (vR (some (23, 231))), some (vI (iZ r)), some (vI (iZ w)), some (vI (iZ wn)), some (vI (iZ s))] [vI (if tw then 1 else 0), vR (some (23, 231))] ma K := by
          intro tw etw
          refine wp_ok (by decide) OK_161 (cc := cd_161) rfl (stops := [134]) 30 _ _ _ _ ?_
          refine And.intro (by cases tw; exact Or.inl rfl; exact Or.inr rfl) ?_
          refine And.intro trivial (M_takes (r := r) (w := wn) rfl rfl (by omega) ?_)
          refine And.intro trivial (hgo _ ?_ ?_ ((Fr.st (Or.inl ⟨rfl, rfl, rfl⟩)).tr (Fr.st (Or.inr ⟨rfl, rfl, by omega⟩))))
          · have h1 : MRow (sI ma 23 231 30 (if tw then 1 else 0)) r (bodG g bd q.1 q.2.1) := hma.fr (A := fun t n k => t = 23) (Fr.st rfl) (fun n k => by omega)
            have h2 := h1.tk (w := wn) (v := iZ s) (by omega)
            cases up with
            | true =>
              have e13 : wn = 13 := hwn
              subst e13
              exact fun j hj => (h2 j hj).trans (bodG_u j hj)
            | false =>
              have e14 : wn = 14 := hwn
              subst e14
              exact fun j hj => (h2 j hj).trans (bodG_d j hj)
          · rw [gI_s, if_neg (by omega), gI_s, if_pos ⟨rfl, rfl, rfl⟩, etw]
        refine wp_ok (by decide) OK_161 (cc := cd_161) rfl (stops := [123]) 40 _ _ _ _ ?_
        cases hq2 : q.2.2 with
        | true =>
          rw [hq2] at e30a
          refine And.intro (fun _ => ?_) (fun u => absurd (e30a.symm.trans u) (by decide))
          exact And.intro trivial (lay true (by rw [hq2]; rfl))
        | false =>
          rw [hq2] at e30a
          refine And.intro (fun u => absurd e30a u) (fun _ => ?_)
          refine And.intro (by rw [ea]; exact (iZ_in (by constructor <;> omega)).mpr (by omega)) ?_
          rw [eo]
          refine And.intro (fun u => ?_) (fun u => ?_)
          · rw [L2, iZ_eq (by constructor <;> omega) (by decide)] at u
            exact And.intro trivial (lay false (by rw [hq2, u]; rfl))
          · rw [L2, iZ_eq (by constructor <;> omega) (by decide)] at u
            exact And.intro trivial (lay true (by rw [hq2]; simp [u]))
      -- the sign is read
      have st81 : ∀ (ma : Mem) (x4 : Option SV), (x4 = none ∨ ∃ y4, x4 = some (vI y4)) → MRS ma tp n (if sgn (nx tp n ta) = 2 then nx tp n ta else nx tp n (nx tp n ta)) → MOk ma → MWd ma → MRow ma r (bodG g bd q.1 q.2.1) → gI ma 23 231 30 = (if q.2.2 then 1 else 0) → Fr (ABr r) m ma → smE true 161 81 [some (vR (some (23, 231))), some (vI (iZ r)), some (vI (iZ w)), some (vI (iZ wn)), x4] [vI (iZ (sgn (nx tp n ta)))] ma K := by
        intro ma x4 hx4 R4 o4 W4 M4 e304 F4
        have g83 : smE true 161 83 [some (vR (some (23, 231))), some (vI (iZ r)), some (vI (iZ w)), some (vI (iZ wn)), some (vI (iZ (sgn (nx tp n ta))))] [] ma K := by
          by_cases s2 : sgn (nx tp n ta) = 2
          · rw [if_pos s2] at hX R4
            refine wp_ok (by decide) OK_161 (cc := cd_161) rfl (stops := [98]) 40 _ _ _ _ ?_
            refine And.intro (fun u => ?_) (fun _ => ?_)
            · rw [L2, iZ_eq (by constructor <;> omega) (by decide)] at u; exact absurd s2 u
            refine And.intro trivial (M_fails (a := 1) (p := (nx tp n ta).2.1) rfl R4.2.2.1 o4 (fun mb f5 F5 => ?_))
            refine And.intro trivial (st98 mb _ (M4.fr F5 (fun n k => by omega)) ((F5.2 _ _ _ (by omega)).trans e304) (fun mc _ _ F6 => ?_))
            have f6 : MFt mc (1, (nx tp n ta).2.1) := ⟨(F6.2 _ _ _ (by omega)).trans f5.1, (F6.2 _ _ _ (by omega)).trans f5.2⟩
            have F46 : Fr (ABr r) m mc := (F4.tr (F5.mono (fun t n k z => Or.inl ⟨z.1, z.2.1, by omega⟩))).tr (F6.mono (fun t n k z => by
              rcases z with z | z
              · exact Or.inr (Or.inl z)
              · exact Or.inr (Or.inr z)))
            refine wp_ok (by decide) OK_161 (cc := cd_161) rfl (stops := []) 40 _ _ _ _ ?_
            refine And.intro trivial (M_word1' (MBad.of f6 (ek1 _)) ?_)
            refine And.intro (fun u => absurd u (by decide)) (fun _ => ?_)
            refine And.intro (fun _ => ?_) (fun u => absurd u (by decide))
            exact And.intro trivial (kF mc _ hX.symm f6 F46)
          · rw [if_neg s2] at hX R4
            refine wp_ok (by decide) OK_161 (cc := cd_161) rfl (stops := [98]) 40 _ _ _ _ ?_
            refine And.intro (fun _ => ?_) (fun u => ?_)
            rotate_left
            · rw [L2, iZ_eq (by constructor <;> omega) (by decide)] at u; exact absurd u s2
            refine And.intro trivial (st98 ma _ M4 e304 (fun mc M6 e306 F6 => ?_))
            have R6 : MRS mc tp n (nx tp n (nx tp n ta)) := R4.fr F6 (fun n k => by omega) (fun k hk => by omega)
            have o6 : MOk mc := (MOk.fr o4 F6 (by omega) (by omega))
            have W6 : MWd mc := wd W4 F6 (fun n k => by omega)
            have F46 : Fr (ABr r) m mc := F4.tr (F6.mono (fun t n k z => by
              rcases z with z | z
              · exact Or.inr (Or.inl z)
              · exact Or.inr (Or.inr z)))
            refine wp_ok (by decide) OK_161 (cc := cd_161) rfl (stops := [47]) 40 _ _ _ _ ?_
            refine And.intro trivial (M_word o6.1 W6 hT hn a3.1 R6 (fun v hv hvy hvz => ?_))
            refine And.intro trivial ?_
            refine ih (if up = true then (sgn (nx tp n ta), q.2.1, q.2.2 || decide (q.1 ≠ 2)) else (q.1, sgn (nx tp n ta), q.2.2 || decide (q.2.1 ≠ 2))) (nx tp n (nx tp n ta)) mc v _ _ (Or.inr ⟨_, _, rfl, rfl⟩) hv hvy hvz (by have := hta.2.2.2.1 (by rcases hor with z | z <;> have := (isW_iff.mp z).1 <;> omega); omega) a3.1 ?_ R6 o6 W6 ?_ ?_ F46 (by rw [hup]; exact hX)
            · cases up with
              | true => exact ⟨hs, hq.2⟩
              | false => exact ⟨hq.1, hs⟩
            · cases up with
              | true => exact M6
              | false => exact M6
            · cases up with
              | true => exact e306
              | false => exact e306
        rcases hx4 with rfl | ⟨y4, rfl⟩
        · refine wp_ok (by decide) OK_161 (cc := cd_161) rfl (stops := [83]) 20 _ _ _ _ ?_
          exact And.intro trivial g83
        · refine wp_ok (by decide) OK_161 (cc := cd_161) rfl (stops := [83]) 20 _ _ _ _ ?_
          exact And.intro trivial g83
      have hx4 : x4 = none ∨ ∃ y4, x4 = some (vI y4) := by
        rcases hx34 with ⟨_, z⟩ | ⟨_, y4, _, z⟩
        · exact Or.inl z
        · exact Or.inr ⟨y4, z⟩
      have st77 : ∀ (ma : Mem), MRS ma tp n (nx tp n ta) → Fr AU mz ma → smE true 161 77 [some (vR (some (23, 231))), some (vI (iZ r)), some (vI (iZ w)), some (vI (iZ wn)), x4] [] ma K := by
        intro ma R2 F2
        refine wp_ok (by decide) OK_161 (cc := cd_161) rfl (stops := [81]) 20 _ _ _ _ ?_
        refine And.intro trivial (M_readsSign (o1.au F2) hT hn a2.1 R2 (fun mb R3 F3 => ?_))
        have F23 := F2.tr F3
        exact And.intro trivial (st81 mb x4 hx4 R3 (o1.au F23) (wd W1 F23 (fun n k => by unfold AU; omega)) (M1.fr F23 (fun n k => by unfold AU; omega)) ((F23.2 _ _ _ (by unfold AU; omega)).trans e30) (F1.tr (auB F23)))
      have st76 : ∀ (ma : Mem), MRS ma tp n (nx tp n ta) → Fr AU mz ma → smE true 161 76 [some (vR (some (23, 231))), some (vI (iZ r)), some (vI (iZ w)), x3, x4] [vI (iZ wn)] ma K := by
        intro ma R2 F2
        have g := st77 ma R2 F2
        rcases hx34 with ⟨rfl, rfl⟩ | ⟨y3, y4, rfl, rfl⟩
        · refine wp_ok (by decide) OK_161 (cc := cd_161) rfl (stops := [77]) 20 _ _ _ _ ?_
          exact And.intro trivial g
        · refine wp_ok (by decide) OK_161 (cc := cd_161) rfl (stops := [77]) 20 _ _ _ _ ?_
          exact And.intro trivial g
      cases up with
      | true =>
        have e17 : w = 17 := ew
        have e13 : wn = 13 := hwn
        subst e17; subst e13
        refine wp1_ok (by decide) OK_161 (cc := cd_161) rfl (stops := [47, 76]) (f := 30) ?_
        refine And.intro (fun _ => ?_) (fun u => absurd rfl u)
        refine And.intro trivial (M_nx hT hn hta R1 (fun ma R2 F2 => ?_))
        refine And.intro (fun u => absurd rfl u) (fun _ => ?_)
        exact And.intro trivial (st76 ma R2 F2)
      | false =>
        have e18 : w = 18 := ew
        have e14 : wn = 14 := hwn
        subst e18; subst e14
        refine wp1_ok (by decide) OK_161 (cc := cd_161) rfl (stops := [47, 76]) (f := 30) ?_
        refine And.intro (fun u => absurd u (by decide)) (fun _ => ?_)
        refine And.intro (fun u => absurd rfl u) (fun _ => ?_)
        refine And.intro trivial (M_nx hT hn hta R1 (fun ma R2 F2 => ?_))
        refine And.intro (fun _ => ?_) (fun u => absurd u (by decide))
        exact And.intro trivial (st76 ma R2 F2)
  refine smC_wp [some (vR (some (23, 231))), some (vI (iZ r)), none, none, none] cd_161 [5] 60 OK_161 (by decide) rfl rfl (Nat.le_of_ble_eq_true rfl) ?_
  refine And.intro (Or.inl rfl) ?_
  refine And.intro trivial ?_
  have FZ : Fr (fun t n k => t = 23 ∧ n = 231 ∧ k = 30) m (sI m 23 231 30 0) := Fr.st ⟨rfl, rfl, rfl⟩
  have z30 : gI (sI m 23 231 30 0) 23 231 30 = 0 := by rw [gI_s, if_pos ⟨rfl, rfl, rfl⟩]
  have R1 : MRS (sI m 23 231 30 0) tp n t := hR.fr FZ (fun n k => by omega) (fun k hk => by omega)
  have o1 : MOk (sI m 23 231 30 0) := (MOk.fr h0 FZ (by omega) (by omega))
  have W1 : MWd (sI m 23 231 30 0) := wd hW FZ (fun n k => by omega)
  have M1 : MRow (sI m 23 231 30 0) r (bodG g 0 2 2) := hM.fr FZ (fun n k => by omega)
  have G1 : Fr (ABr r) m (sI m 23 231 30 0) := FZ.mono (fun t n k z => Or.inr (Or.inl z))
  generalize sI m 23 231 30 0 = ma at *
  refine wp1_ok (by decide) OK_161 (cc := cd_161) rfl (stops := [47]) (f := 60) ?_
  refine And.intro trivial (M_word o1.1 W1 hT hn ht R1 (fun w hw hwy hwz => ?_))
  refine And.intro trivial (M_in (v := (w : Int)) (lo := 9) (hi := 16) rfl (by constructor <;> omega) (by decide) (by decide) rfl rfl (fun u => ?_) (fun u => ?_))
  rotate_left
  · have eb : bodyF tp t 8 = 0 := bodyF_no 8 (by decide) (fun v v1 v2 hv => by
      rcases Nat.lt_or_ge w 21 with z | z
      · have := isW_one z (by omega) (hwy z) hv; omega
      · exact hwz v (by omega) hv)
    rw [if_pos eb] at hS
    refine And.intro (fun z => absurd rfl z) (fun _ => ?_)
    exact And.intro trivial (hS ma _ _ _ rfl R1 o1 W1 M1 z30 G1)
  have hw21 : w < 21 := by omega
  have eb : bodyF tp t 8 = (w : Int) - 8 := bodyF_w (hwy hw21) (by omega) 8 (by decide) (by omega)
  rw [if_neg (by omega), eb] at hF hS
  refine And.intro (fun _ => ?_) (fun z => absurd z (by decide))
  have ev : iZ (w : Int) - 9 + 1 = iZ ((w : Int) - 8) := by rw [L9, L1, iZ_sub, iZ_add]; congr 1; omega
  refine And.intro trivial (M_takes (r := r) (w := 10) rfl rfl (by omega) ?_)
  rw [ev]
  have FY : Fr (fun t n k => t = 30 ∧ n = 238 ∧ r ≤ k ∧ k < r + 30) ma (sI ma 30 238 (r + 10) (iZ ((w : Int) - 8))) := Fr.st ⟨rfl, rfl, by omega⟩
  have M2 : MRow (sI ma 30 238 (r + 10) (iZ ((w : Int) - 8))) r (bodG g ((w : Int) - 8) 2 2) := fun j hj => ((M1.tk (w := 10) (v := iZ ((w : Int) - 8)) (by decide)) j hj).trans (bodG_b j hj)
  have R2 : MRS (sI ma 30 238 (r + 10) (iZ ((w : Int) - 8))) tp n t := R1.fr FY (fun n k => by omega) (fun k hk => by omega)
  have o2 : MOk (sI ma 30 238 (r + 10) (iZ ((w : Int) - 8))) := (MOk.fr o1 FY (by omega) (by omega))
  have W2 : MWd (sI ma 30 238 (r + 10) (iZ ((w : Int) - 8))) := wd W1 FY (fun n k => by omega)
  have e302 : gI (sI ma 30 238 (r + 10) (iZ ((w : Int) - 8))) 23 231 30 = 0 := (FY.2 _ _ _ (by omega)).trans z30
  have G2 : Fr (ABr r) m (sI ma 30 238 (r + 10) (iZ ((w : Int) - 8))) := G1.tr (FY.mono (fun t n k z => Or.inr (Or.inr z)))
  generalize sI ma 30 238 (r + 10) (iZ ((w : Int) - 8)) = mb at *
  have a2 := nx_ok hT hn ht
  refine And.intro trivial (M_nx hT hn ht R2 (fun mc R3 F3 => ?_))
  have o3 := o2.au F3
  have W3 := wd W2 F3 (fun n k => by unfold AU; omega)
  refine And.intro trivial (M_word o3.1 W3 hT hn a2.1 R3 (fun v hv hvy hvz => ?_))
  refine And.intro trivial ?_
  exact loop ((w : Int) - 8) (pSgs tp n n (2, 2, false) (nx tp n t)) (fun m' e he f' F' => hF m' e (by rw [he]) f' F') (fun m' q' tz he R' o' W' M' e' F' => hS m' _ q' tz (by rw [he]) R' o' W' M' e' F') n (2, 2, false) (nx tp n t) mc v none none (Or.inl ⟨rfl, rfl⟩) hv hvy hvz (by omega) a2.1 ⟨by constructor <;> decide, by constructor <;> decide⟩ R3 o3 W3 (M2.fr F3 (fun n k => by unfold AU; omega)) ((F3.2 _ _ _ (by unfold AU; omega)).trans e302) (G2.tr (auB F3)) rfl
end MRBY
