/-! BODIES: what is played, and the verdict -/
def lessN (v : Int) : Int := if v = 3 then 3 else 2
def prS (P : Int → Int × Int) (T lf : Int) (bu : Bool) : Int × List Pl :=
  if bu then (if 3 * T ≤ lf then (1, shQ P 4 T lf) else (3, [])) else if 4 * T ≤ lf then (1, shQ P 5 T lf) else if 3 * T ≤ lf then (2, shQ P 4 T lf) else (3, [])
def tuS (P : Int → Int × Int) (T lf : Int) (q4 : Bool) (c : Nat) : Int × List Pl :=
  if 4 * T ≤ lf then (1, shQ P c T lf) else if q4 then (3, []) else (1, shQ P c (lf / 4) lf)
def tsS (P : Int → Int × Int) (T lf : Int) (bu af : Bool) : Int × List Pl × Bool :=
  if af = true ∧ fitN T (lf - 2 * T) bu ≠ 0 then (1, trQ P T bu (fitN T (lf - 2 * T) bu) (lf - 2 * T) ++ [(2, P 2, T), (0, P 0, T)], true)
  else if fitN T lf bu ≠ 0 then (1, trQ P T bu (fitN T lf bu) lf, false) else (0, [], false)
def bodS (P : Int → Int × Int) (T lf : Int) (bu af sty q4 q8 : Bool) (bd : Int) : Int × List Pl × Bool :=
  if bd = 1 then (if (tsS P T lf bu af).1 = 1 then tsS P T lf bu af else (lessN (prS P T lf bu).1, (prS P T lf bu).2, false))
  else if bd = 2 then (if 3 * T ≤ lf then (1, shQ P 0 T lf, false) else (3, [], false))
  else if bd = 3 then ((prS P T lf bu).1, (prS P T lf bu).2, false)
  else if bd = 4 then ((tuS P T lf q4 1).1, (tuS P T lf q4 1).2, false)
  else if bd = 5 then (if q8 then (lessN (tuS P T lf q4 1).1, (tuS P T lf q4 1).2, false) else (1, (0, P 0, 4 * (lf / 8)) :: shQ P 1 (lf / 8) (lf - 4 * (lf / 8)), false))
  else if bd = 6 then ((tuS P T lf q4 2).1, (tuS P T lf q4 2).2, false)
  else if bd = 7 then (if 5 * T ≤ lf then (1, shQ P 3 T lf, false) else if 3 * T ≤ lf then (2, shQ P 0 T lf, false) else (3, [], false))
  else if bd = 8 then (if fitN T (lf - 2 * T) sty ≠ 0 then (1, (2, P 2, T) :: (0, P 0, T) :: (tsS P T (lf - 2 * T) sty af).2.1, (tsS P T (lf - 2 * T) sty af).2.2)
    else if (tsS P T lf bu af).1 = 1 then (2, (tsS P T lf bu af).2) else (lessN (prS P T lf bu).1, (prS P T lf bu).2, false))
  else (0, [], false)
abbrev NX := Option (Nat × Int × Int)
def EB (m0 : Mem) (nn : Nat) (tm : Nat → Int) (pc sp bd bh : Int) (nx : NX) : Prop :=
  (∀ k, k < 7 → gI m0 5 5 k = iZ (tm k)) ∧ (gI m0 4 4 6 = iZ pc ∧ gI m0 8 nn 5 = iZ sp ∧ gI m0 8 nn 9 = iZ bd ∧ gI m0 8 nn 12 = iZ bh) ∧
  (gP m0 4 4 9 = nx.map (fun z => (8, z.1)) ∧ ∀ z, nx = some z → gI m0 8 z.1 0 = iZ (pit z.2.1 z.2.2) ∧ okP z.2) ∧
  ((0 ≤ tm 0 ∧ tm 0 ≤ 250) ∧ (0 ≤ tm 2 ∧ tm 2 ≤ 1) ∧ (0 ≤ tm 4 ∧ tm 4 ≤ 1) ∧ (0 ≤ tm 6 ∧ tm 6 ≤ 1)) ∧ (0 ≤ sp ∧ sp ≤ 400) ∧ (0 ≤ pc ∧ pc ≤ 400) ∧ (0 ≤ bd ∧ bd ≤ 8) ∧ 0 ≤ bh ∧ bh ≤ 2
abbrev buP (P : Int → Int × Int) (s : WS) (sty : Int) : Prop := (s.2.1 = true ∧ ltN s = (P 1).1) ∨ sty = 1
abbrev afP (P : Int → Int × Int) (bh af : Int) (nx : NX) : Prop := bh = 1 ∨ (af = 1 ∧ ∃ z, nx = some z ∧ z.2.1 = (P 1).1)
section BODY
variable {m0 m : Mem} {K : Option SV → Mem → Prop} {sc i nn cap : Nat} {kp b : Bool} {T lf o a pc sp bd bh : Int} {P : Int → Int × Int} {s : WS} {tm : Nat → Int} {nx : NX}
theorem c_playPrall (hE : EW m0 sc i nn T P) (hB : EB m0 nn tm pc sp bd bh nx) {bu : Bool} (hbu : bu = true ↔ buP P s (tm 6)) (rl : 0 ≤ lf ∧ lf ≤ 1000000) (hC : CW m0 sc i kp cap m s lf o a b) (hcap : s.1.length + 4 ≤ cap)
    (h : ∀ m' lf', ((prS P T lf bu).1 = 3 → lf' = lf) → CW m0 sc i kp cap m' (apN i (prS P T lf bu).2 s) lf' o a b → K (some (vI (iZ (prS P T lf bu).1))) m') : smC true 79 [vR (some (4, 4))] m K := by
  have hT := hE.Tr
  refine smC_wp [some (vR (some (4, 4)))] cd_79 [] 60 OK_79 (by decide) rfl rfl (Nat.le_of_ble_eq_true rfl) ?_
  refine And.intro trivial (c_behUp hE (hB.1 6 (by decide)) hB.2.2.2.1.2.2.2 hC (fun q => ?_) (fun q => ?_))
  · have e : bu = true := hbu.mpr q
    subst e
    refine And.intro (fun z => absurd z (by decide)) (fun _ => ?_)
    refine And.intro trivial (c_playShape hE (rdT hE hC) (n := 3) (by decide) rfl (by omega) rl hC (by omega) (fun z => ?_) (fun z m' C' => ?_))
    · refine And.intro (fun _ => ?_) (fun z => absurd rfl z)
      have : prS P T lf true = (3, []) := by unfold prS; rw [if_pos rfl, if_neg (by omega)]
      rw [this] at h
      exact And.intro trivial (h m lf (fun _ => rfl) hC)
    · refine And.intro (fun z => absurd z (by decide)) (fun _ => ?_)
      have : prS P T lf true = (1, shQ P 4 T lf) := by unfold prS; rw [if_pos rfl, if_pos (by omega)]
      rw [this] at h
      exact And.intro trivial (h m' _ (fun z => absurd z (by simp)) C')
  · have e : bu = false := by cases bu with | false => rfl | true => exact absurd (hbu.mp rfl) q
    subst e
    refine And.intro (fun _ => ?_) (fun z => absurd rfl z)
    refine And.intro trivial (c_playShape hE (rdT hE hC) (n := 4) (by decide) rfl (by omega) rl hC (by omega) (fun z => ?_) (fun z m' C' => ?_))
    · refine And.intro (fun _ => ?_) (fun z => absurd rfl z)
      refine And.intro trivial (c_playShape hE (rdT hE hC) (n := 3) (by decide) rfl (by omega) rl hC (by omega) (fun y => ?_) (fun y m' C' => ?_))
      · refine And.intro (fun _ => ?_) (fun z => absurd rfl z)
        have : prS P T lf false = (3, []) := by unfold prS; rw [if_neg (by decide), if_neg (by omega), if_neg (by omega)]
        rw [this] at h
        exact And.intro trivial (h m lf (fun _ => rfl) hC)
      · refine And.intro (fun z => absurd z (by decide)) (fun _ => ?_)
        have : prS P T lf false = (2, shQ P 4 T lf) := by unfold prS; rw [if_neg (by decide), if_neg (by omega), if_pos (by omega)]
        rw [this] at h
        exact And.intro trivial (h m' _ (fun z => absurd z (by simp)) C')
    · refine And.intro (fun z => absurd z (by decide)) (fun _ => ?_)
      have : prS P T lf false = (1, shQ P 5 T lf) := by unfold prS; rw [if_neg (by decide), if_pos (by omega)]
      rw [this] at h
      exact And.intro trivial (h m' _ (fun z => absurd z (by simp)) C')
theorem c_playTurn (hE : EW m0 sc i nn T P) (hB : EB m0 nn tm pc sp bd bh nx) {q4 : Bool} (hq : q4 = true ↔ qk (tm 0) sp pc (lf / 4)) {c : Nat} (hc : c = 1 ∨ c = 2) (rl : 8 ≤ lf ∧ lf ≤ 1000000) (hC : CW m0 sc i kp cap m s lf o a b) (hcap : s.1.length + 4 ≤ cap)
    (h0 : tuS P T lf q4 c = (3, []) → K (some (vI 0)) m) (h1 : (tuS P T lf q4 c).1 = 1 → ∀ m' lf', CW m0 sc i kp cap m' (apN i (tuS P T lf q4 c).2 s) lf' o a b → K (some (vI 1)) m') : smC true 82 [vR (some (4, 4)), vR (some (60, c))] m K := by
  have hT := hE.Tr
  have hc6 : c < 6 := by omega
  have hn : (shI c).length + 1 = 4 := by rcases hc with rfl | rfl <;> rfl
  refine smC_wp [some (vR (some (4, 4))), some (vR (some (60, c)))] cd_82 [] 60 OK_82 (by decide) rfl rfl (Nat.le_of_ble_eq_true rfl) ?_
  refine And.intro trivial (c_playShape hE (rdT hE hC) (n := 4) hc6 hn (by omega) (by omega) hC (by omega) (fun z => ?_) (fun z m' C' => ?_))
  · refine And.intro (fun _ => ?_) (fun z => absurd rfl z)
    refine And.intro (by decide) ?_
    have e4 : gI m 4 4 11 / 4 = iZ (lf / 4) := by rw [hC.2.1.1, L4, iZ_div (by constructor <;> omega) (by decide) (by omega) (by decide)]
    refine Exists.intro _ (And.intro (rdN hE hC) ?_)
    refine And.intro trivial (c_isQuick e4 ((rd8 hC _ _).trans hB.2.1.2.1) ((rd_n hC (by decide) (by decide) (by decide) (by decide) (by omega)).trans hB.2.1.1) ((rd5 hC _ _).trans (hB.1 0 (by decide))) hB.2.2.2.1.1 hB.2.2.2.2.1 hB.2.2.2.2.2.1 (by omega) (fun y => ?_) (fun y => ?_))
    · refine And.intro (fun _ => ?_) (fun z => absurd z (by decide))
      have e : q4 = true := hq.mpr y
      exact And.intro (Or.inl rfl) (h0 (by unfold tuS; rw [if_neg (by omega), if_pos e]))
    · refine And.intro (fun z => absurd rfl z) (fun _ => ?_)
      have e : q4 = false := by cases q4 with | false => rfl | true => exact absurd (hq.mp rfl) y
      have et : tuS P T lf q4 c = (1, shQ P c (lf / 4) lf) := by unfold tuS; rw [if_neg (by omega), if_neg (by rw [e]; decide)]
      rw [et] at h1
      refine And.intro (by decide) ?_
      refine And.intro trivial (c_playShape hE (e := lf / 4) e4 (n := 4) hc6 hn (by omega) (by omega) hC (by omega) (fun w => ?_) (fun w m' C' => ?_))
      · exfalso; omega
      · refine And.intro (fun z => absurd z (by decide)) (fun _ => ?_)
        exact And.intro (Or.inr rfl) (h1 rfl m' _ C')
  · refine And.intro (fun z => absurd z (by decide)) (fun _ => ?_)
    have et : tuS P T lf q4 c = (1, shQ P c T lf) := by unfold tuS; rw [if_pos (by omega)]
    rw [et] at h1
    exact And.intro (Or.inr rfl) (h1 rfl m' _ C')
theorem c_playLate (hE : EW m0 sc i nn T P) (hB : EB m0 nn tm pc sp bd bh nx) (rl : 8 ≤ lf ∧ lf ≤ 1000000) (hC : CW m0 sc i kp cap m s lf o a b) (hcap : s.1.length + 5 ≤ cap)
    (h0 : qk (tm 0) sp pc (lf / 8) → K (some (vI 0)) m) (h1 : ¬ qk (tm 0) sp pc (lf / 8) → ∀ m' lf', CW m0 sc i kp cap m' (apN i ((0, P 0, 4 * (lf / 8)) :: shQ P 1 (lf / 8) (lf - 4 * (lf / 8))) s) lf' o a b → K (some (vI 1)) m') : smC true 83 [vR (some (4, 4))] m K := by
  have hT := hE.Tr
  refine smC_wp [some (vR (some (4, 4))), none] cd_83 [] 60 OK_83 (by decide) rfl rfl (Nat.le_of_ble_eq_true rfl) ?_
  refine And.intro (by decide) ?_
  have e8 : gI m 4 4 11 / 8 = iZ (lf / 8) := by rw [hC.2.1.1, L8, iZ_div (by constructor <;> omega) (by decide) (by omega) (by decide)]
  rw [e8]
  refine Exists.intro _ (And.intro (rdN hE hC) ?_)
  refine And.intro trivial (c_isQuick rfl ((rd8 hC _ _).trans hB.2.1.2.1) ((rd_n hC (by decide) (by decide) (by decide) (by decide) (by omega)).trans hB.2.1.1) ((rd5 hC _ _).trans (hB.1 0 (by decide))) hB.2.2.2.1.1 hB.2.2.2.2.1 hB.2.2.2.2.2.1 (by omega) (fun y => ?_) (fun y => ?_))
  · refine And.intro (fun z => absurd z (by decide)) (fun _ => ?_)
    exact And.intro (Or.inl rfl) (h0 y)
  · refine And.intro (fun _ => ?_) (fun z => absurd rfl z)
    refine And.intro trivial (c_play hE L0 (l := 4 * (lf / 8)) (by rw [L4, iZ_mul]) (by decide) hC (by omega) (by omega) (fun m1 C1 => ?_))
    have C2 := C1.left (v := lf - 4 * (lf / 8)) (x := gI m1 4 4 11 - 4 * iZ (lf / 8)) (by rw [C1.2.1.1, L4, iZ_mul, iZ_sub])
    refine And.intro trivial (c_playShape hE (e := lf / 8) rfl (n := 4) (by decide) rfl (by omega) (by omega) C2 (by simp only [plN, List.length_cons]; omega) (fun w => ?_) (fun w m' C' => ?_))
    · exfalso; omega
    · exact And.intro (Or.inr rfl) (h1 y m' _ C')
theorem c_playTurns (hE : EW m0 sc i nn T P) (hB : EB m0 nn tm pc sp bd bh nx) {bu af : Bool} (hbu : bu = true ↔ buP P s (tm 6)) (haf : af = true ↔ afP P bh (tm 4) nx) (rl : 0 ≤ lf ∧ lf ≤ 1000000) (hC : CW m0 sc i kp cap m s lf o a false) (hcap : s.1.length + 66 ≤ cap)
    (h0 : tsS P T lf bu af = (0, [], false) → K (some (vI 0)) m) (h1 : (tsS P T lf bu af).1 = 1 → ∀ m', CW m0 sc i kp cap m' (apN i (tsS P T lf bu af).2.1 s) lf o a (tsS P T lf bu af).2.2 → K (some (vI 1)) m') : smC true 74 [vR (some (4, 4))] m K := by
  have hT := hE.Tr
  have second : ¬ (af = true ∧ fitN T (lf - 2 * T) bu ≠ 0) → smE true 74 56 [some (vR (some (4, 4))), some (vI (if bu then 1 else 0))] [] m K := by
    intro hn
    refine wp_ok (by decide) OK_74 (cc := cd_74) rfl (stops := []) 40 _ _ _ _ ?_
    refine And.intro trivial (c_addTurns hE (t := lf) rfl hC.2.1.1 (by omega) hC (by omega) (fun z => ?_) (fun z m' C' => ?_))
    · exact And.intro (Or.inl rfl) (h0 (by unfold tsS; rw [if_neg hn, if_neg (by simpa using z)]))
    · have et : tsS P T lf bu af = (1, trQ P T bu (fitN T lf bu) lf, false) := by unfold tsS; rw [if_neg hn, if_pos z]
      rw [et] at h1
      exact And.intro (Or.inr rfl) (h1 rfl m' C')
  have go : smE true 74 4 [some (vR (some (4, 4))), none] [vI (if bu then 1 else 0)] m K := by
    refine wp_ok (by decide) OK_74 (cc := cd_74) rfl (stops := [56]) 60 _ _ _ _ ?_
    refine And.intro trivial (c_wants hE hB.2.1.2.2.2 hB.2.2.2.2.2.2.2 (hB.1 4 (by decide)) hB.2.2.2.1.2.2.1 hB.2.2.1.1 hB.2.2.1.2 hC (fun q => ?_) (fun q => ?_))
    · have e : af = true := haf.mpr q
      refine And.intro (fun z => absurd z (by decide)) (fun _ => ?_)
      refine And.intro trivial (c_addTurns hE (t := lf - 2 * T) rfl (by rw [hC.2.1.1, rdT hE hC, L2, iZ_mul, iZ_sub]) (by omega) hC (by omega) (fun z => ?_) (fun z m' C' => ?_))
      · refine And.intro (fun _ => ?_) (fun z => absurd rfl z)
        exact And.intro trivial (second (fun y => y.2 z))
      · refine And.intro (fun z => absurd z (by decide)) (fun _ => ?_)
        have et : tsS P T lf bu af = (1, trQ P T bu (fitN T (lf - 2 * T) bu) (lf - 2 * T) ++ [(2, P 2, T), (0, P 0, T)], true) := by unfold tsS; rw [if_pos ⟨e, z⟩]
        rw [et] at h1
        have hf := fitN_rng (t := lf - 2 * T) (bu := bu) (T := T) (by omega)
        have hlen : (apN i (trQ P T bu (fitN T (lf - 2 * T) bu) (lf - 2 * T)) s).1.length ≤ s.1.length + 64 := by
          rw [apN_len]; unfold trQ; rw [List.length_append, altQ_len]; simp; omega
        refine And.intro trivial (c_play hE L2 (rdT hE C') (by decide) C' (by omega) (by omega) (fun m1 C1 => ?_))
        refine And.intro trivial (c_play hE L0 (rdT hE C1) (by decide) C1 (by omega) (by simp only [plN, List.length_cons]; omega) (fun m2 C2 => ?_))
        refine And.intro (Or.inr rfl) ?_
        refine And.intro (Or.inr rfl) (h1 rfl _ ?_)
        rw [apN_app]
        exact C2.played
    · refine And.intro (fun _ => ?_) (fun z => absurd rfl z)
      exact And.intro trivial (second (fun y => q (haf.mp y.1)))
  refine smC_wp [some (vR (some (4, 4))), none] cd_74 [4] 60 OK_74 (by decide) rfl rfl (Nat.le_of_ble_eq_true rfl) ?_
  refine And.intro trivial (c_behUp hE (hB.1 6 (by decide)) hB.2.2.2.1.2.2.2 hC (fun q => ?_) (fun q => ?_))
  · have e : bu = true := hbu.mpr q
    subst e
    exact And.intro trivial go
  · have e : bu = false := by cases bu with | false => rfl | true => exact absurd (hbu.mp rfl) q
    subst e
    exact And.intro trivial go
theorem c_playJoin (hE : EW m0 sc i nn T P) (hB : EB m0 nn tm pc sp bd bh nx) {sty : Bool} (hs : sty = true ↔ tm 6 = 1) (rl : 0 ≤ lf ∧ lf ≤ 1000000) (hC : CW m0 sc i kp cap m s lf o a b) (hcap : s.1.length + 2 ≤ cap)
    (h0 : fitN T (lf - 2 * T) sty = 0 → K (some (vI 0)) m) (h1 : fitN T (lf - 2 * T) sty ≠ 0 → ∀ m', CW m0 sc i kp cap m' (apN i [(2, P 2, T), (0, P 0, T)] s) (lf - 2 * T) o a b → K (some (vI 1)) m') : smC true 84 [vR (some (4, 4))] m K := by
  have hT := hE.Tr
  have hf := fitN_rng (t := lf - 2 * T) (bu := sty) (T := T) (by omega)
  have e6 : gI m 5 5 6 = iZ (tm 6) := (rd5 hC _ _).trans (hB.1 6 (by decide))
  have r6 := hB.2.2.2.1.2.2.2
  have go : smE true 84 28 [some (vR (some (4, 4)))] [vI (if sty then 1 else 0), vI (iZ (lf - 2 * T)), vR (some (4, 4))] m K := by
    refine wp_ok (by decide) OK_84 (cc := cd_84) rfl (stops := []) 60 _ _ _ _ ?_
    refine And.intro trivial (c_turnsIn (md := true) rfl rfl (rdT hE hC) (by omega) (by constructor <;> omega) ?_)
    refine And.intro (fun z => ?_) (fun z => ?_)
    · rw [L0, iZ_eq (by constructor <;> omega) (by decide)] at z
      refine And.intro trivial (c_play hE L2 (rdT hE hC) (by decide) hC (by omega) (by omega) (fun m1 C1 => ?_))
      refine And.intro trivial (c_play hE L0 (rdT hE C1) (by decide) C1 (by omega) (by simp only [plN, List.length_cons]; omega) (fun m2 C2 => ?_))
      have C3 := C2.left (v := lf - 2 * T) (x := gI m2 4 4 11 - 2 * gI m2 4 4 10) (by rw [C2.2.1.1, rdT hE C2, L2, iZ_mul, iZ_sub])
      exact And.intro (Or.inr rfl) (h1 z _ C3)
    · rw [L0, iZ_eq (by constructor <;> omega) (by decide)] at z
      exact And.intro (Or.inl rfl) (h0 z)
  have el : gI m 4 4 11 - 2 * gI m 4 4 10 = iZ (lf - 2 * T) := by rw [hC.2.1.1, rdT hE hC, L2, iZ_mul, iZ_sub]
  refine smC_wp [some (vR (some (4, 4)))] cd_84 [28] 60 OK_84 (by decide) rfl rfl (Nat.le_of_ble_eq_true rfl) ?_
  refine And.intro (by rw [L6, iZ_in (by decide)]; decide) ?_
  refine And.intro (fun z => ?_) (fun z => ?_)
  · have z : ¬ gI m 5 5 6 = 1 := z
    rw [e6, L1, iZ_eq (by constructor <;> omega) (by decide)] at z
    have e : sty = false := by cases sty with | false => rfl | true => exact absurd (hs.mp rfl) z
    rw [e] at go
    refine And.intro trivial ?_
    rw [el]; exact go
  · have z : gI m 5 5 6 = 1 := z
    rw [e6, L1, iZ_eq (by constructor <;> omega) (by decide)] at z
    have e : sty = true := hs.mpr z
    rw [e] at go
    refine And.intro trivial ?_
    rw [el]; exact go
end BODY
