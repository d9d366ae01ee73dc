/-! THE MODEL: trills and the bodies -/
section MBODY
variable {m0 m : Mem} {K : Option SV → Mem → Prop} {D : Dt} {tm : Nat → Int} {i : Nat} {s : WS} {lf a T : Int} {b : Bool} {P : Int → Int × Int}
theorem M_trills {bu af : Bool} {x : Int32} (hx : x = if bu then 1 else 0) (hE : ME m0 i tm D) (eT : wT tm (tm 5) (D.2.1 i) = T) (eP : Pk (tm 3) (D.2.1 i) = P) (haf : af = afB P (D.2.1 i 12) (tm 4) (nxD 0 D i)) (rl : 0 ≤ lf ∧ lf ≤ 1000000) (hC : MC m0 m i s lf a b) (hlen : s.1.length + 66 ≤ 3600)
    (h1 : ∀ m' lf', (tsS P T lf bu af).1 = 1 → MC m0 m' i (apN i (tsS P T lf bu af).2.1 s) lf' a (tsS P T lf bu af).2.2 → K (some (vI 1)) m') (h0 : ∀ m', ¬ (tsS P T lf bu af).1 = 1 → MC m0 m' i s lf a false → K (some (vI 0)) m') : smC true 200 [vR (some (23, 231)), vI x] m K := by
  subst hx
  obtain ⟨he, ⟨htm, hD, hi, hn1⟩, e44, e45, e46, e47, e48⟩ := id hE
  have hT := hE.Tr
  rw [eT] at hT
  have E := MC.e3 hE hC
  have r45 : gI m 23 231 45 = iZ (3 * T) := by rw [rt hE hC, eT]
  have r51 := hC.2.1.1
  have hbh := (hD.2.1 i hi).2.2.2.2.2.2.2.2.2.1
  have t4 := htm.2.2.2.2.1
  have g4 : gI m 24 232 (4 : Int32).toNatClampNeg = iZ (tm 4) := E.2.1 4 (by decide)
  have hiff : af = true ↔ afP P (D.2.1 i 12) (tm 4) (nxD 0 D i) := by rw [haf]; exact afB_iff
  have f1 := fitN_rng (T := T) (t := lf - 2 * T) (bu := bu) (by omega)
  have f2 := fitN_rng (T := T) (t := lf) (bu := bu) (by omega)
  -- the afterbeat is played
  have yes : af = true → fitN T (lf - 2 * T) bu ≠ 0 → ∀ (x2 : Int32) m1, MC m0 m1 i s lf a true → smE true 200 75 [some (vR (some (23, 231))), some (vI (if bu then 1 else 0)), some (vI x2), some (vI (iZ (fitN T (lf - 2 * T) bu)))] [] m1 K := by
    intro ha hf x2 m1 C1
    have hle := fitN_le (T := T) (t := lf - 2 * T) (bu := bu) (by omega) hf
    have e : tsS P T lf bu af = (1, trQ P T bu (fitN T (lf - 2 * T) bu) (lf - 2 * T) ++ [(2, P 2, T), (0, P 0, T)], true) := by unfold tsS; rw [if_pos ⟨ha, hf⟩]
    rw [e] at h1
    have q52 := C1.2.1.2.2
    refine wp_ok (by decide) OK_200 (cc := cd_200) rfl (stops := [120]) 40 _ _ _ _ ?_
    refine And.intro (fun _ => ?_) (fun z => absurd (q52.symm.trans z) (by decide))
    refine And.intro (fun _ => ?_) (fun z => ?_)
    rotate_left
    · rw [L0, iZ_eq (by constructor <;> omega) (by decide)] at z
      omega
    refine And.intro (fun z => absurd (q52.symm.trans z) (by decide)) (fun _ => ?_)
    refine And.intro trivial ?_
    rw [C1.2.1.1, rt hE C1, eT, L2, iZ_mul, iZ_sub, show 3 * lf - 2 * (3 * T) = 3 * (lf - 2 * T) by omega]
    exact M_tr_end hE eT eP (by omega) ⟨hle, by omega⟩ (C1.left (lf' := lf - 2 * T)) hlen (fun m' C' => h1 m' _ rfl C')
  -- it isn't
  have no : ¬ (af = true ∧ fitN T (lf - 2 * T) bu ≠ 0) → ∀ (x2 x3 : Int32) m1, MC m0 m1 i s lf a false → smE true 200 75 [some (vR (some (23, 231))), some (vI (if bu then 1 else 0)), some (vI x2), some (vI x3)] [] m1 K := by
    intro hn x2 x3 m1 C1
    have q52 := C1.2.1.2.2
    refine wp_ok (by decide) OK_200 (cc := cd_200) rfl (stops := [120]) 40 _ _ _ _ ?_
    refine And.intro (fun z => absurd q52 z) (fun _ => ?_)
    refine And.intro trivial (M_fit (h0 := lf) C1.2.1.1 rfl hT (by rw [rt hE C1, eT]) (by omega) ?_)
    by_cases hf : fitN T lf bu = 0
    · have e : tsS P T lf bu af = (0, [], false) := by unfold tsS; rw [if_neg hn, if_neg (by omega)]
      rw [e] at h0
      refine And.intro (fun z => ?_) (fun _ => ?_)
      · rw [L0, iZ_eq (by constructor <;> omega) (by decide)] at z
        omega
      exact And.intro (Or.inl rfl) (h0 m1 (by decide) C1)
    · have hle := fitN_le (T := T) (t := lf) (bu := bu) (by omega) hf
      have e : tsS P T lf bu af = (1, trQ P T bu (fitN T lf bu) lf, false) := by unfold tsS; rw [if_neg hn, if_pos hf]
      rw [e] at h1
      refine And.intro (fun _ => ?_) (fun z => ?_)
      rotate_left
      · rw [L0, iZ_eq (by constructor <;> omega) (by decide)] at z
        omega
      refine And.intro (fun _ => ?_) (fun z => absurd q52 z)
      refine And.intro trivial (M_tr_end hE eT eP (by omega) ⟨hle, by omega⟩ C1 hlen (fun m' C' => h1 m' lf rfl ?_))
      simp only [if_false, List.append_nil, Bool.false_eq_true] at C'
      exact C'
  have st62 : ∀ n : Int, n = (if af then fitN T (lf - 2 * T) bu else 0) → ∀ (x2 : Int32), smE true 200 61 [some (vR (some (23, 231))), some (vI (if bu then 1 else 0)), some (vI x2), none] [vI (iZ n)] m K := by
    intro n en x2
    refine wp_ok (by decide) OK_200 (cc := cd_200) rfl (stops := [75]) 40 _ _ _ _ ?_
    have rn' : n = 0 ∨ 3 ≤ n ∧ n ≤ 64 := by rw [en]; split; exact f1; exact Or.inl rfl
    refine And.intro (fun z => ?_) (fun z => ?_)
    · rw [L0, iZ_le (by constructor <;> omega) (by decide)] at z
      refine And.intro (Or.inl rfl) ?_
      refine And.intro trivial (no ?_ _ _ _ (hC.abt (b' := false) rfl))
      rintro ⟨q1, q2⟩
      rw [if_pos q1] at en
      omega
    · rw [L0, iZ_le (by constructor <;> omega) (by decide)] at z
      refine And.intro (Or.inr rfl) ?_
      have ha : af = true := by
        cases af with
        | true => rfl
        | false => simp at en; omega
      rw [if_pos ha] at en
      rw [en]
      exact And.intro trivial (yes ha (by omega) _ _ (hC.abt (b' := true) rfl))
  have st37 : smE true 200 37 [some (vR (some (23, 231))), some (vI (if bu then 1 else 0)), some (vI (if af then 1 else 0)), none] [] m K := by
    refine wp_ok (by decide) OK_200 (cc := cd_200) rfl (stops := [61]) 40 _ _ _ _ ?_
    cases ea : af with
    | false =>
      refine And.intro (fun _ => ?_) (fun z => absurd rfl z)
      exact And.intro trivial (st62 0 (by rw [ea]; rfl) _)
    | true =>
      refine And.intro (fun z => absurd z (by decide)) (fun _ => ?_)
      refine And.intro trivial (M_fit (h0 := lf - 2 * T) ?_ rfl hT r45 (by omega) ?_)
      · rw [r51, r45, L2, iZ_mul, iZ_sub]; congr 1; omega
      exact And.intro trivial (st62 _ (by rw [ea]; rfl) _)
  have w1 : af = true → smE true 200 31 [some (vR (some (23, 231))), some (vI (if bu then 1 else 0)), none, none] [] m K := by
    intro ha
    rw [ha] at st37
    refine wp_ok (by decide) OK_200 (cc := cd_200) rfl (stops := [37]) 40 _ _ _ _ ?_
    exact And.intro trivial st37
  have w0 : ¬ af = true → smE true 200 35 [some (vR (some (23, 231))), some (vI (if bu then 1 else 0)), none, none] [] m K := by
    intro ha
    rw [show af = false by simpa using ha] at st37
    refine wp_ok (by decide) OK_200 (cc := cd_200) rfl (stops := [37]) 40 _ _ _ _ ?_
    exact And.intro trivial st37
  refine smC_wp [some (vR (some (23, 231))), some (vI (if bu then 1 else 0)), none, none] cd_200 [31, 35] 40 OK_200 (by decide) rfl rfl (Nat.le_of_ble_eq_true rfl) ?_
  refine And.intro trivial (M_of (i := i) (w := 12) (rn hE hC) rfl hD E.2.2 hi (by decide) ?_)
  rw [mw_id (by decide) (by decide)]
  refine And.intro (fun z => ?_) (fun z => ?_)
  · rw [L1, iZ_eq (by constructor <;> omega) (by decide)] at z
    exact And.intro trivial (w1 (hiff.mpr (Or.inl z)))
  rw [L1, iZ_eq (by constructor <;> omega) (by decide)] at z
  refine And.intro (by rw [L4, iZ_in (by decide)]; decide) ?_
  rw [g4]
  refine And.intro (fun y => ?_) (fun y => ?_)
  · rw [L1, iZ_eq (by constructor <;> omega) (by decide)] at y
    refine And.intro trivial (w0 (fun q => ?_))
    rcases hiff.mp q with w | w
    · exact z w
    · exact y w.1
  rw [L1, iZ_eq (by constructor <;> omega) (by decide)] at y
  refine And.intro trivial (M_nextAbove hE eP hC (fun q => ?_) (fun q => ?_))
  · refine And.intro (fun w => absurd w (by decide)) (fun _ => ?_)
    exact And.intro trivial (w1 (hiff.mpr (Or.inr ⟨y, q⟩)))
  · refine And.intro (fun _ => ?_) (fun w => absurd rfl w)
    refine And.intro trivial (w0 (fun r => ?_))
    rcases hiff.mp r with w | w
    · exact z w
    · exact q w.2
theorem M_trill {bu af : Bool} (hE : ME m0 i tm D) (eT : wT tm (tm 5) (D.2.1 i) = T) (eP : Pk (tm 3) (D.2.1 i) = P) (hbu : bu = true ↔ buP P s (tm 6)) (haf : af = afB P (D.2.1 i 12) (tm 4) (nxD 0 D i)) (rl : 0 ≤ lf ∧ lf ≤ 1000000) (hC : MC m0 m i s lf a b) (hlen : s.1.length + 66 ≤ 3600)
    (h1 : ∀ m' lf', (tsS P T lf bu af).1 = 1 → MC m0 m' i (apN i (tsS P T lf bu af).2.1 s) lf' a (tsS P T lf bu af).2.2 → K (some (vI (iZ 1))) m') (h0 : ∀ m', ¬ (tsS P T lf bu af).1 = 1 → MC m0 m' i (apN i (prS P T lf bu).2 s) lf a false → K (some (vI (iZ (lessN (prS P T lf bu).1)))) m') : smC true 198 [vR (some (23, 231))] m K := by
  have tr : ∀ (x : Int32), x = (if bu then 1 else 0) → smE true 198 5 [some (vR (some (23, 231)))] [vI x, vR (some (23, 231))] m K := by
    intro x hx
    refine wp_ok (by decide) OK_198 (cc := cd_198) rfl (stops := []) 40 _ _ _ _ ?_
    refine And.intro trivial (M_trills hx hE eT eP haf rl hC hlen (fun m1 l1 q C1 => ?_) (fun m1 q C1 => ?_))
    · refine And.intro (fun z => absurd z (by decide)) (fun _ => ?_)
      exact And.intro trivial (h1 m1 l1 q C1)
    · refine And.intro (fun _ => ?_) (fun z => absurd rfl z)
      refine And.intro trivial (M_prall hE eT eP hbu rl C1 (by omega) (fun m2 C2 => ?_))
      refine And.intro trivial (M_less rfl ?_ ?_)
      · have : (prS P T lf bu).1 = 1 ∨ (prS P T lf bu).1 = 2 ∨ (prS P T lf bu).1 = 3 := by
          unfold prS; split
          · split <;> simp
          · split
            · simp
            · split <;> simp
        constructor <;> omega
      · exact And.intro trivial (h0 m2 q C2)
  refine smC_wp [some (vR (some (23, 231)))] cd_198 [5] 40 OK_198 (by decide) rfl rfl (Nat.le_of_ble_eq_true rfl) ?_
  refine And.intro trivial (M_behUp hE eP hC (fun q => ?_) (fun q => ?_))
  · exact And.intro trivial (tr 1 (by rw [hbu.mpr q]; rfl))
  · have e : bu = false := by
      cases bu with
      | false => rfl
      | true => exact absurd (hbu.mp rfl) q
    exact And.intro trivial (tr 0 (by rw [e]; rfl))
theorem M_quarters {o1 o2 e : Int} {x1 x2 x3 : Int32} (h1 : x1 = iZ o1) (h2 : x2 = iZ o2) (h3 : x3 = iZ (3 * e)) (k1 : o1 = 0 ∨ o1 = 1 ∨ o1 = 2) (k2 : o2 = 0 ∨ o2 = 1 ∨ o2 = 2) (hE : ME m0 i tm D) (eP : Pk (tm 3) (D.2.1 i) = P) (re : 1 ≤ e ∧ e ≤ 1000000) (hC : MC m0 m i s lf a b) (hlen : s.1.length + 4 ≤ 3600)
    (h : ∀ m', MC m0 m' i (apN i [(o1, P o1, e), (0, P 0, e), (o2, P o2, e), (0, P 0, e)] s) lf a b → K none m') : smC true 208 [vR (some (23, 231)), vI x1, vI x2, vI x3] m K := by
  subst h1; subst h2; subst h3; subst eP
  refine smC_wp [some (vR (some (23, 231))), some (vI (iZ o1)), some (vI (iZ o2)), some (vI (iZ (3 * e)))] cd_208 [] 40 OK_208 (by decide) rfl rfl (Nat.le_of_ble_eq_true rfl) ?_
  refine And.intro trivial (M_puts rfl rfl (by omega) hE hC re (by omega) (fun m1 C1 => ?_))
  refine And.intro trivial (M_puts (kd := 0) rfl rfl (by omega) hE C1 re (by show s.1.length + 1 < 3600; omega) (fun m2 C2 => ?_))
  refine And.intro trivial (M_puts rfl rfl (by omega) hE C2 re (by show s.1.length + 1 + 1 < 3600; omega) (fun m3 C3 => ?_))
  refine And.intro trivial (M_puts (kd := 0) rfl rfl (by omega) hE C3 re (by show s.1.length + 1 + 1 + 1 < 3600; omega) (fun m4 C4 => ?_))
  exact And.intro trivial (h m4 C4)
theorem M_turn {c : Nat} {o1 o2 : Int} {q4 : Bool} {x1 x2 : Int32} (h1 : x1 = iZ o1) (h2 : x2 = iZ o2) (hc : (c = 1 ∧ o1 = 1 ∧ o2 = 2) ∨ (c = 2 ∧ o1 = 2 ∧ o2 = 1)) (hE : ME m0 i tm D) (eT : wT tm (tm 5) (D.2.1 i) = T) (eP : Pk (tm 3) (D.2.1 i) = P) (hq : q4 = true ↔ qk (tm 0) (D.2.1 i 9) (tm 5) (lf / 4)) (rl : 8 ≤ lf ∧ lf ≤ 1000000 ∧ lf % 8 = 0) (hC : MC m0 m i s lf a b) (hlen : s.1.length + 4 ≤ 3600)
    (h : ∀ m', MC m0 m' i (apN i (tuS P T lf q4 c).2 s) lf a b → K (some (vI (iZ (tuS P T lf q4 c).1))) m') : smC true 207 [vR (some (23, 231)), vI x1, vI x2] m K := by
  subst h1; subst h2; subst eP
  obtain ⟨he, ⟨htm, hD, hi, hn1⟩, e44, _⟩ := id hE
  have hT := hE.Tr
  rw [eT] at hT
  have h5 := htm.2.2.2.2.2.1
  have h0 := htm.1
  have hsp := (hD.2.1 i hi).2.2.2.2.2.2.1
  have E := MC.e3 hE hC
  have hp : ∀ {m1 : Mem} {s1 : WS}, MC m0 m1 i s1 lf a b → gI m1 23 231 45 = iZ (3 * T) ∧ gI m1 23 231 51 = iZ (3 * lf) := fun C1 => ⟨by rw [rt hE C1, eT], C1.2.1.1⟩
  have esh : ∀ e : Int, shQ (Pk (tm 3) (D.2.1 i)) c e lf = [(o1, Pk (tm 3) (D.2.1 i) o1, e), (0, Pk (tm 3) (D.2.1 i) 0, e), (o2, Pk (tm 3) (D.2.1 i) o2, e), (0, Pk (tm 3) (D.2.1 i) 0, lf - 3 * e)] := by
    intro e
    rcases hc with ⟨rfl, rfl, rfl⟩ | ⟨rfl, rfl, rfl⟩ <;> rfl
  have k1 : o1 = 0 ∨ o1 = 1 ∨ o1 = 2 ∨ o1 = 4 := by omega
  have k2 : o2 = 0 ∨ o2 = 1 ∨ o2 = 2 ∨ o2 = 4 := by omega
  have q0 := hp hC
  refine smC_wp [some (vR (some (23, 231))), some (vI (iZ o1)), some (vI (iZ o2)), none] cd_207 [] 60 OK_207 (by decide) rfl rfl (Nat.le_of_ble_eq_true rfl) ?_
  unfold tuS at h
  refine And.intro (fun z => ?_) (fun z => ?_)
  · rw [q0.1, q0.2, L4, iZ_mul, iZ_lt (by constructor <;> omega) (by constructor <;> omega)] at z
    rw [if_neg (by omega)] at h
    refine And.intro (by decide) ?_
    have e4 : gI m 23 231 51 / 4 = iZ (3 * (lf / 4)) := by
      rw [q0.2, L4, iZ_div (by constructor <;> omega) (by decide) (by omega) (by decide)]; congr 1; omega
    refine And.intro trivial (M_of (i := i) (w := 9) (rn hE hC) rfl hD E.2.2 hi (by decide) ?_)
    rw [mw_id (by decide) (by decide)]
    refine And.intro trivial (M_isQuick (t := lf / 4) e4 rfl E.2.1 (by omega) (by omega) (by omega) (by omega) (fun q => ?_) (fun q => ?_))
    · refine And.intro (fun w => absurd w (by decide)) (fun _ => ?_)
      rw [if_pos (hq.mpr q)] at h
      exact And.intro trivial (h m hC)
    · refine And.intro (fun _ => ?_) (fun w => absurd rfl w)
      rw [if_neg (fun w => q (hq.mp w)), esh] at h
      refine And.intro trivial (M_quarters (e := lf / 4) rfl rfl e4 (by omega) (by omega) hE rfl (by omega) hC hlen (fun m' C' => ?_))
      rw [show lf - 3 * (lf / 4) = lf / 4 by omega] at h
      exact And.intro trivial (h m' C')
  · rw [q0.1, q0.2, L4, iZ_mul, iZ_lt (by constructor <;> omega) (by constructor <;> omega)] at z
    rw [if_pos (by omega), esh] at h
    refine And.intro trivial (M_puts (l := T) rfl q0.1 k1 hE hC (by omega) (by omega) (fun m1 C1 => ?_))
    refine And.intro trivial (M_puts (kd := 0) (l := T) rfl (hp C1).1 (by omega) hE C1 (by omega) (by show s.1.length + 1 < 3600; omega) (fun m2 C2 => ?_))
    refine And.intro trivial (M_puts (l := T) rfl (hp C2).1 k2 hE C2 (by omega) (by show s.1.length + 1 + 1 < 3600; omega) (fun m3 C3 => ?_))
    refine And.intro trivial (M_puts (kd := 0) (l := lf - 3 * T) rfl ?_ (by omega) hE C3 (by omega) (by show s.1.length + 1 + 1 + 1 < 3600; omega) (fun m4 C4 => ?_))
    · rw [(hp C3).1, (hp C3).2, L3, iZ_mul, iZ_sub]; congr 1; omega
    exact And.intro trivial (h m4 C4)
end MBODY
