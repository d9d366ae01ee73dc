/-! A NOTE: prefix, body, behind -/
theorem bodS_3 {P : Int → Int × Int} {T lf : Int} {bu : Bool} : (prS P T lf bu).1 = 1 ∨ (prS P T lf bu).1 = 2 ∨ prS P T lf bu = (3, []) := by
  unfold prS; split
  · split <;> simp
  · split
    · simp
    · split <;> simp
theorem tuS_3 {P : Int → Int × Int} {T lf : Int} {q4 : Bool} {c : Nat} : (tuS P T lf q4 c).1 = 1 ∨ tuS P T lf q4 c = (3, []) := by
  unfold tuS; split
  · simp
  · split <;> simp
theorem tsS_3 {P : Int → Int × Int} {T lf : Int} {bu af : Bool} : (tsS P T lf bu af).1 = 1 ∨ tsS P T lf bu af = (0, [], false) := by
  unfold tsS; split
  · simp
  · split <;> simp
section NOTE2
variable {m0 m : Mem} {K : Option SV → Mem → Prop} {sc i nn cap : Nat} {kp b : Bool} {T lf o a pc sp bd bh : Int} {P : Int → Int × Int} {s : WS} {tm : Nat → Int} {nx : NX}
theorem c_less {md : Bool} {v : Int} {x : Int32} (hx : x = iZ v) (rv : R32 v) (h : K (some (vI (iZ (lessN v)))) m) : smC md 81 [vI x] m K := by
  subst hx
  refine smC_wp [some (vI (iZ v))] cd_81 [] 30 OK_81 (by decide) rfl rfl (Nat.le_of_ble_eq_true rfl) ?_
  unfold lessN at h
  refine And.intro (fun z => ?_) (fun z => ?_)
  · rw [L3, iZ_eq rv (by decide)] at z
    rw [if_neg z] at h
    exact And.intro trivial h
  · rw [L3, iZ_eq rv (by decide)] at z
    rw [if_pos z] at h
    exact And.intro trivial h
theorem c_playBody (hE : EW m0 sc i nn T P) (hB : EB m0 nn tm pc sp bd bh nx) {bu af sty q4 q8 : Bool} (hbu : bu = true ↔ buP P s (tm 6)) (haf : af = true ↔ afP P bh (tm 4) nx) (hsty : sty = true ↔ tm 6 = 1) (hq4 : q4 = true ↔ qk (tm 0) sp pc (lf / 4)) (hq8 : q8 = true ↔ qk (tm 0) sp pc (lf / 8)) (rl : 8 ≤ lf ∧ lf ≤ 1000000) (hC : CW m0 sc i kp cap m s lf o a false) (hcap : s.1.length + 68 ≤ cap)
    (h : ∀ m' lf', ((bodS P T lf bu af sty q4 q8 bd).1 = 3 ∨ (bodS P T lf bu af sty q4 q8 bd).1 = 0 → lf' = lf) → CW m0 sc i kp cap m' (apN i (bodS P T lf bu af sty q4 q8 bd).2.1 s) lf' o a (bodS P T lf bu af sty q4 q8 bd).2.2 → K (some (vI (iZ (bodS P T lf bu af sty q4 q8 bd).1))) m') : smC true 73 [vR (some (4, 4))] m K := by
  have hT := hE.Tr
  have rbd := hB.2.2.2.2.2.2.1
  have ebd : gI m 8 nn 9 = iZ bd := (rd8 hC _ _).trans hB.2.1.2.2.1
  have gT : gI m 4 4 10 = iZ T := rdT hE hC
  have c1 : bd = 1 → smE true 73 52 [some (vR (some (4, 4))), none] [] m K := by
    intro e
    have eb : bodS P T lf bu af sty q4 q8 bd = (if (tsS P T lf bu af).1 = 1 then tsS P T lf bu af else (lessN (prS P T lf bu).1, (prS P T lf bu).2, false)) := by unfold bodS; rw [if_pos e]
    rw [eb] at h
    refine wp_ok (by decide) OK_73 (cc := cd_73) rfl (stops := []) 60 _ _ _ _ ?_
    refine And.intro trivial (c_playTurns hE hB hbu haf (by omega) hC (by omega) (fun z => ?_) (fun z m' C' => ?_))
    · refine And.intro (fun _ => ?_) (fun z => absurd rfl z)
      rw [z, if_neg (by simp)] at h
      refine And.intro trivial (c_playPrall hE hB hbu (by omega) hC (by omega) (fun m' lf' q C' => ?_))
      have h3 := bodS_3 (P := P) (T := T) (lf := lf) (bu := bu)
      refine And.intro trivial (c_less rfl ?_ ?_)
      · rcases h3 with h3 | h3 | h3 <;> rw [h3] <;> decide
      · refine And.intro trivial (h m' lf' (fun y => q ?_) C')
        simp only [lessN] at y
        split at y
        · assumption
        · simp at y
    · refine And.intro (fun z => absurd z (by decide)) (fun _ => ?_)
      rw [if_pos z, z] at h
      exact And.intro trivial (h m' lf (fun y => by simp at y) C')
  have c2 : bd = 2 → smE true 73 71 [some (vR (some (4, 4))), none] [] m K := by
    intro e
    have eb : bodS P T lf bu af sty q4 q8 bd = (if 3 * T ≤ lf then (1, shQ P 0 T lf, false) else (3, [], false)) := by unfold bodS; rw [if_neg (by omega), if_pos e]
    rw [eb] at h
    refine wp_ok (by decide) OK_73 (cc := cd_73) rfl (stops := []) 60 _ _ _ _ ?_
    refine And.intro trivial (c_playShape hE gT (n := 3) (by decide) rfl (by omega) (by omega) hC (by omega) (fun z => ?_) (fun z m' C' => ?_))
    · refine And.intro (fun _ => ?_) (fun z => absurd rfl z)
      rw [if_neg (by omega)] at h
      exact And.intro trivial (h m lf (fun _ => rfl) hC)
    · refine And.intro (fun z => absurd z (by decide)) (fun _ => ?_)
      rw [if_pos (by omega)] at h
      exact And.intro trivial (h m' _ (fun z => by simp at z) C')
  have c3 : bd = 3 → smE true 73 91 [some (vR (some (4, 4))), none] [] m K := by
    intro e
    have eb : bodS P T lf bu af sty q4 q8 bd = ((prS P T lf bu).1, (prS P T lf bu).2, false) := by unfold bodS; rw [if_neg (by omega), if_neg (by omega), if_pos e]
    rw [eb] at h
    refine wp_ok (by decide) OK_73 (cc := cd_73) rfl (stops := []) 60 _ _ _ _ ?_
    refine And.intro trivial (c_playPrall hE hB hbu (by omega) hC (by omega) (fun m' lf' q C' => ?_))
    have h3 := bodS_3 (P := P) (T := T) (lf := lf) (bu := bu)
    refine And.intro trivial (h m' lf' (fun y => q ?_) C')
    rcases h3 with h3 | h3 | h3 <;> simp only [h3] at y ⊢ <;> simp at y
  have c4 : bd = 4 → smE true 73 96 [some (vR (some (4, 4))), none] [] m K := by
    intro e
    have eb : bodS P T lf bu af sty q4 q8 bd = ((tuS P T lf q4 1).1, (tuS P T lf q4 1).2, false) := by unfold bodS; rw [if_neg (by omega), if_neg (by omega), if_neg (by omega), if_pos e]
    rw [eb] at h
    refine wp_ok (by decide) OK_73 (cc := cd_73) rfl (stops := []) 60 _ _ _ _ ?_
    refine And.intro trivial (c_playTurn hE hB hq4 (Or.inl rfl) rl hC (by omega) (fun z => ?_) (fun z m' lf' C' => ?_))
    · refine And.intro (fun _ => ?_) (fun z => absurd rfl z)
      rw [z] at h
      exact And.intro trivial (h m lf (fun _ => rfl) hC)
    · refine And.intro (fun z => absurd z (by decide)) (fun _ => ?_)
      rw [z] at h
      exact And.intro trivial (h m' lf' (fun z => by simp at z) C')
  have c5 : bd = 5 → smE true 73 112 [some (vR (some (4, 4))), none] [] m K := by
    intro e
    have eb : bodS P T lf bu af sty q4 q8 bd = (if q8 then (lessN (tuS P T lf q4 1).1, (tuS P T lf q4 1).2, false) else (1, (0, P 0, 4 * (lf / 8)) :: shQ P 1 (lf / 8) (lf - 4 * (lf / 8)), false)) := by unfold bodS; rw [if_neg (by omega), if_neg (by omega), if_neg (by omega), if_neg (by omega), if_pos e]
    rw [eb] at h
    refine wp_ok (by decide) OK_73 (cc := cd_73) rfl (stops := []) 60 _ _ _ _ ?_
    refine And.intro trivial (c_playLate hE hB rl hC (by omega) (fun y => ?_) (fun y m' lf' C' => ?_))
    · rw [if_pos (hq8.mpr y)] at h
      refine And.intro (fun _ => ?_) (fun z => absurd rfl z)
      refine And.intro trivial (c_playTurn hE hB hq4 (Or.inl rfl) rl hC (by omega) (fun z => ?_) (fun z m' lf' C' => ?_))
      · refine And.intro (fun _ => ?_) (fun z => absurd rfl z)
        rw [z] at h
        exact And.intro trivial (h m lf (fun _ => rfl) hC)
      · refine And.intro (fun z => absurd z (by decide)) (fun _ => ?_)
        rw [z] at h
        exact And.intro trivial (h m' lf' (fun z => by simp [lessN] at z) C')
    · rw [if_neg (fun z => y (hq8.mp z))] at h
      refine And.intro (fun z => absurd z (by decide)) (fun _ => ?_)
      exact And.intro trivial (h m' lf' (fun z => by simp at z) C')
  have c6 : bd = 6 → smE true 73 137 [some (vR (some (4, 4))), none] [] m K := by
    intro e
    have eb : bodS P T lf bu af sty q4 q8 bd = ((tuS P T lf q4 2).1, (tuS P T lf q4 2).2, false) := by unfold bodS; rw [if_neg (by omega), if_neg (by omega), if_neg (by omega), if_neg (by omega), if_neg (by omega), if_pos e]
    rw [eb] at h
    refine wp_ok (by decide) OK_73 (cc := cd_73) rfl (stops := []) 60 _ _ _ _ ?_
    refine And.intro trivial (c_playTurn hE hB hq4 (Or.inr rfl) rl hC (by omega) (fun z => ?_) (fun z m' lf' C' => ?_))
    · refine And.intro (fun _ => ?_) (fun z => absurd rfl z)
      rw [z] at h
      exact And.intro trivial (h m lf (fun _ => rfl) hC)
    · refine And.intro (fun z => absurd z (by decide)) (fun _ => ?_)
      rw [z] at h
      exact And.intro trivial (h m' lf' (fun z => by simp at z) C')
  have c7 : bd = 7 → smE true 73 153 [some (vR (some (4, 4))), none] [] m K := by
    intro e
    have eb : bodS P T lf bu af sty q4 q8 bd = (if 5 * T ≤ lf then (1, shQ P 3 T lf, false) else if 3 * T ≤ lf then (2, shQ P 0 T lf, false) else (3, [], false)) := by unfold bodS; rw [if_neg (by omega), if_neg (by omega), if_neg (by omega), if_neg (by omega), if_neg (by omega), if_neg (by omega), if_pos e]
    rw [eb] at h
    refine wp_ok (by decide) OK_73 (cc := cd_73) rfl (stops := []) 60 _ _ _ _ ?_
    refine And.intro trivial (c_playShape hE gT (n := 5) (by decide) rfl (by omega) (by omega) hC (by omega) (fun z => ?_) (fun z m' C' => ?_))
    · rw [if_neg (by omega)] at h
      refine And.intro (fun _ => ?_) (fun z => absurd rfl z)
      refine And.intro trivial (c_playShape hE gT (n := 3) (by decide) rfl (by omega) (by omega) hC (by omega) (fun y => ?_) (fun y m' C' => ?_))
      · refine And.intro (fun _ => ?_) (fun z => absurd rfl z)
        rw [if_neg (by omega)] at h
        exact And.intro trivial (h m lf (fun _ => rfl) hC)
      · refine And.intro (fun z => absurd z (by decide)) (fun _ => ?_)
        rw [if_pos (by omega)] at h
        exact And.intro trivial (h m' _ (fun z => by simp at z) C')
    · rw [if_pos (by omega)] at h
      refine And.intro (fun z => absurd z (by decide)) (fun _ => ?_)
      exact And.intro trivial (h m' _ (fun z => by simp at z) C')
  have c8 : bd = 8 → smE true 73 189 [some (vR (some (4, 4))), none] [] m K := by
    intro e
    have eb : bodS P T lf bu af sty q4 q8 bd = (if fitN T (lf - 2 * T) sty ≠ 0 then (1, (2, P 2, T) :: (0, P 0, T) :: (tsS P T (lf - 2 * T) sty af).2.1, (tsS P T (lf - 2 * T) sty af).2.2)
      else if (tsS P T lf bu af).1 = 1 then (2, (tsS P T lf bu af).2) else (lessN (prS P T lf bu).1, (prS P T lf bu).2, false)) := by unfold bodS; rw [if_neg (by omega), if_neg (by omega), if_neg (by omega), if_neg (by omega), if_neg (by omega), if_neg (by omega), if_neg (by omega), if_pos e]
    rw [eb] at h
    refine wp_ok (by decide) OK_73 (cc := cd_73) rfl (stops := []) 60 _ _ _ _ ?_
    refine And.intro trivial (c_playJoin hE hB hsty (by omega) hC (by omega) (fun z => ?_) (fun z m1 C1 => ?_))
    · rw [if_neg (by simpa using z)] at h
      refine And.intro trivial (c_playTurns hE hB hbu haf (by omega) hC (by omega) (fun z => ?_) (fun z m' C' => ?_))
      · refine And.intro (fun _ => ?_) (fun z => absurd rfl z)
        rw [z, if_neg (by simp)] at h
        refine And.intro trivial (c_playPrall hE hB hbu (by omega) hC (by omega) (fun m' lf' q C' => ?_))
        have h3 := bodS_3 (P := P) (T := T) (lf := lf) (bu := bu)
        refine And.intro trivial (c_less rfl ?_ ?_)
        · rcases h3 with h3 | h3 | h3 <;> rw [h3] <;> decide
        · refine And.intro trivial (h m' lf' (fun y => q ?_) C')
          simp only [lessN] at y
          split at y
          · assumption
          · simp at y
      · refine And.intro (fun z => absurd z (by decide)) (fun _ => ?_)
        refine And.intro (fun _ => ?_) (fun z => absurd rfl z)
        rw [if_pos z] at h
        exact And.intro trivial (h m' lf (fun y => by simp at y) C')
    · rw [if_pos z] at h
      have hbu2 : sty = true ↔ buP P (apN i [(2, P 2, T), (0, P 0, T)] s) (tm 6) := by
        rw [hsty]
        constructor
        · exact fun q => Or.inr q
        · rintro (q | q)
          · have := hE.2.2.2.2.2.2
            have q2 : (P 0).1 = (P 1).1 := q.2
            omega
          · exact q
      have ht1 : (tsS P T (lf - 2 * T) sty af).1 = 1 := by
        rcases tsS_3 (P := P) (T := T) (lf := lf - 2 * T) (bu := sty) (af := af) with q | q
        · exact q
        · unfold tsS at q
          split at q
          · simp at q
          · simp at q
      have hle := fitN_le (t := lf - 2 * T) (bu := sty) (T := T) (by omega) z
      have hf := fitN_rng (t := lf - 2 * T) (bu := sty) (T := T) (by omega)
      have hp : 0 ≤ fitN T (lf - 2 * T) sty * T := Int.mul_nonneg (by omega) (by omega)
      refine And.intro trivial (c_playTurns hE hB hbu2 haf (by omega) C1 (by rw [apN_len]; simp only [List.length_cons, List.length_nil]; omega) (fun y => ?_) (fun y m' C' => ?_))
      · rw [y] at ht1; simp at ht1
      · refine And.intro (fun z => absurd z (by decide)) (fun _ => ?_)
        refine And.intro (fun z => absurd z (by decide)) (fun _ => ?_)
        exact And.intro trivial (h m' _ (fun y => by simp at y) C')
  have c0 : bd = 0 → smE true 73 219 [some (vR (some (4, 4))), none] [] m K := by
    intro e
    have eb : bodS P T lf bu af sty q4 q8 bd = (0, [], false) := by unfold bodS; rw [if_neg (by omega), if_neg (by omega), if_neg (by omega), if_neg (by omega), if_neg (by omega), if_neg (by omega), if_neg (by omega), if_neg (by omega)]
    rw [eb] at h
    refine wp_ok (by decide) OK_73 (cc := cd_73) rfl (stops := []) 60 _ _ _ _ ?_
    exact And.intro trivial (h m lf (fun _ => rfl) hC)
  refine smC_wp [some (vR (some (4, 4))), none] cd_73 [52, 71, 91, 96, 112, 137, 153, 189, 219] 60 OK_73 (by decide) rfl rfl (Nat.le_of_ble_eq_true rfl) ?_
  refine Exists.intro _ (And.intro (rdN hE hC) ?_)
  refine And.intro (fun q => And.intro trivial (c1 ?_)) ?_
  · rw [ebd, L1, iZ_eq (by constructor <;> omega) (by decide)] at q; exact q
  refine And.intro (fun q => And.intro trivial (c2 ?_)) ?_
  · rw [ebd, L2, iZ_eq (by constructor <;> omega) (by decide)] at q; exact q
  refine And.intro (fun q => And.intro trivial (c3 ?_)) ?_
  · rw [ebd, L3, iZ_eq (by constructor <;> omega) (by decide)] at q; exact q
  refine And.intro (fun q => And.intro trivial (c4 ?_)) ?_
  · rw [ebd, L4, iZ_eq (by constructor <;> omega) (by decide)] at q; exact q
  refine And.intro (fun q => And.intro trivial (c5 ?_)) ?_
  · rw [ebd, L5, iZ_eq (by constructor <;> omega) (by decide)] at q; exact q
  refine And.intro (fun q => And.intro trivial (c6 ?_)) ?_
  · rw [ebd, L6, iZ_eq (by constructor <;> omega) (by decide)] at q; exact q
  refine And.intro (fun q => And.intro trivial (c7 ?_)) ?_
  · rw [ebd, L7, iZ_eq (by constructor <;> omega) (by decide)] at q; exact q
  refine And.intro (fun q => And.intro trivial (c8 ?_)) ?_
  · rw [ebd, L8, iZ_eq (by constructor <;> omega) (by decide)] at q; exact q
  refine fun q => And.intro trivial (c0 ?_)
  rw [ebd, iZ_toInt (by constructor <;> omega)] at q
  omega
end NOTE2
