/-! THE MODEL: neighbours -/
section MPIT
variable {m : Mem} {K : Option SV → Mem → Prop} {D : Dt} {tm : Nat → Int}
theorem M_neighbour {told held key s : Int} {x1 x2 x3 x4 x5 x6 : Int32} (h2 : x2 = iZ told) (h3 : x3 = iZ held) (h4 : x4 = iZ key) (h5 : x5 = iZ (s % 7)) (h6 : x6 = iZ (s / 7)) (hB : MB m) (hT : MTm m tm) (rh : R32 (tm 3)) (rt : -1 ≤ told ∧ told ≤ 2) (rd : -1 ≤ held ∧ held ≤ 2) (rk : -7 ≤ key ∧ key ≤ 7)
    (h : K (some (vI (iZ (byN s (toldN told (tm 3) held) key)))) m) : smC true 182 [vR (some (23, 231)), vI x1, vI x2, vI x3, vI x4, vI x5, vI x6] m K := by
  subst h2; subst h3; subst h4; subst h5; subst h6
  have h7 := m7 s
  have tail : ∀ by0 : Int, byN s (toldN told (tm 3) held) key = natN s + by0 → smE true 182 36 [some (vR (some (23, 231))), some (vI x1), some (vI (iZ told)), some (vI (iZ held)), some (vI (iZ key)), some (vI (iZ (s % 7))), some (vI (iZ (s / 7))), none] [vI (iZ by0)] m K := by
    intro by0 e
    refine wp_ok (by decide) OK_182 (cc := cd_182) rfl (stops := []) 60 _ _ _ _ ?_
    refine And.intro trivial (M_plainOf rfl rfl hB h7 ?_)
    refine And.intro trivial ?_
    rw [iZ_add]
    rw [e] at h
    exact h
  have ht3 := hT 3 (by decide)
  refine smC_wp [some (vR (some (23, 231))), some (vI x1), some (vI (iZ told)), some (vI (iZ held)), some (vI (iZ key)), some (vI (iZ (s % 7))), some (vI (iZ (s / 7))), none] cd_182 [36] 60 OK_182 (by decide) rfl rfl (Nat.le_of_ble_eq_true rfl) ?_
  refine And.intro (fun z => ?_) (fun z => ?_)
  · rw [L2, iZ_eq (by constructor <;> omega) (by decide)] at z
    refine And.intro (by rw [L3, iZ_in (by decide)]; decide) ?_
    refine And.intro (fun w => ?_) (fun w => ?_)
    · have w : ¬ gI m 24 232 3 = 1 := w
      rw [ht3, L1, iZ_eq rh (by decide)] at w
      refine And.intro trivial (M_alterBy rfl rfl hB rk h7 (And.intro trivial (tail _ ?_)))
      simp [toldN, byN, z, w]
    · have w : gI m 24 232 3 = 1 := w
      rw [ht3, L1, iZ_eq rh (by decide)] at w
      refine And.intro (fun y => ?_) (fun y => ?_)
      · rw [L2, iZ_eq (by constructor <;> omega) (by decide)] at y
        refine And.intro trivial (M_alterBy rfl rfl hB rk h7 (And.intro trivial (tail _ ?_)))
        simp [toldN, byN, z, w, y]
      · rw [L2, iZ_eq (by constructor <;> omega) (by decide)] at y
        refine And.intro trivial (tail _ ?_)
        simp [toldN, byN, z, w, y]
  · rw [L2, iZ_eq (by constructor <;> omega) (by decide)] at z
    refine And.intro trivial (tail _ ?_)
    simp [toldN, byN, z]
section ATI
variable {i : Nat}
/-- the numbers of note i -/
theorem mw_id {w : Nat} {v : Int} (h4 : w ≠ 4) (h5 : w ≠ 5) : mw w v = v := by unfold mw; rw [if_neg (by omega)]
theorem st_up {l o : Int} (hl : 0 ≤ l ∧ l ≤ 6) : (7 * o + l + 1) % 7 = (l + 1) % 7 ∧ (7 * o + l + 1) / 7 = o + (if l = 6 then 1 else 0) := by split <;> omega
theorem st_dn {l o b : Int} (hl : 0 ≤ l ∧ l ≤ 6) (hb : 0 ≤ b ∧ b ≤ 6) : (7 * o + l - b) % 7 = (l + 7 - b) % 7 ∧ (7 * o + l - b) / 7 = o - (if l < b then 1 else 0) := by split <;> omega
theorem M_upLetter {x : Int32} (hx : x = iZ i) (hD : DOK D) (hM : MD m D) (hi : i < D.1) (h1 : D.2.1 i 0 = 1) (h : K (some (vI (iZ ((nStep (D.2.1 i) + 1) % 7)))) m) : smC true 180 [vR (some (23, 231)), vI x] m K := by
  subst hx
  have hf := (hD.2.1 i hi).2.2.2.2.2.2.2.2.2.2.2 h1
  refine smC_wp [some (vR (some (23, 231))), some (vI (iZ i))] cd_180 [] 40 OK_180 (by decide) rfl rfl (Nat.le_of_ble_eq_true rfl) ?_
  refine And.intro trivial (M_of (w := 1) rfl rfl hD hM hi (by decide) ?_)
  rw [mw_id (by decide) (by decide)]
  refine And.intro (by decide) ?_
  refine And.intro trivial ?_
  have e := (st_up (l := D.2.1 i 1) (o := D.2.1 i 2) hf.1.1).1
  rw [L1, L7, iZ_add, iZ_rem (by constructor <;> omega) (by decide) (by omega) (by decide)]
  unfold nStep at h
  rw [e] at h
  exact h
theorem M_upOctave {x : Int32} (hx : x = iZ i) (hD : DOK D) (hM : MD m D) (hi : i < D.1) (h1 : D.2.1 i 0 = 1) (h : K (some (vI (iZ ((nStep (D.2.1 i) + 1) / 7)))) m) : smC true 181 [vR (some (23, 231)), vI x] m K := by
  subst hx
  have hf := (hD.2.1 i hi).2.2.2.2.2.2.2.2.2.2.2 h1
  have e := (st_up (l := D.2.1 i 1) (o := D.2.1 i 2) hf.1.1).2
  refine smC_wp [some (vR (some (23, 231))), some (vI (iZ i))] cd_181 [] 40 OK_181 (by decide) rfl rfl (Nat.le_of_ble_eq_true rfl) ?_
  refine And.intro trivial (M_of (w := 2) rfl rfl hD hM hi (by decide) ?_)
  rw [mw_id (by decide) (by decide)]
  refine And.intro trivial (M_of (w := 1) rfl rfl hD hM hi (by decide) ?_)
  rw [mw_id (by decide) (by decide)]
  unfold nStep at h
  rw [e] at h
  refine And.intro (fun z => ?_) (fun z => ?_)
  · rw [L6, iZ_eq (by constructor <;> omega) (by decide)] at z
    rw [if_neg z] at h
    refine And.intro trivial ?_
    rw [L0, iZ_add]; exact h
  · rw [L6, iZ_eq (by constructor <;> omega) (by decide)] at z
    rw [if_pos z] at h
    refine And.intro trivial ?_
    rw [L1, iZ_add]; exact h
theorem M_downLetter {b : Int} {x y : Int32} (hx : x = iZ i) (hy : y = iZ b) (hb : 0 ≤ b ∧ b ≤ 6) (hD : DOK D) (hM : MD m D) (hi : i < D.1) (h1 : D.2.1 i 0 = 1) (h : K (some (vI (iZ ((nStep (D.2.1 i) - b) % 7)))) m) : smC true 184 [vR (some (23, 231)), vI x, vI y] m K := by
  subst hx; subst hy
  have hf := (hD.2.1 i hi).2.2.2.2.2.2.2.2.2.2.2 h1
  refine smC_wp [some (vR (some (23, 231))), some (vI (iZ i)), some (vI (iZ b))] cd_184 [] 40 OK_184 (by decide) rfl rfl (Nat.le_of_ble_eq_true rfl) ?_
  refine And.intro trivial (M_of (w := 1) rfl rfl hD hM hi (by decide) ?_)
  rw [mw_id (by decide) (by decide)]
  refine And.intro (by decide) ?_
  refine And.intro trivial ?_
  have e := (st_dn (l := D.2.1 i 1) (o := D.2.1 i 2) hf.1.1 hb).1
  rw [L7, iZ_add, iZ_sub, iZ_rem (by constructor <;> omega) (by decide) (by omega) (by decide)]
  unfold nStep at h
  rw [e] at h
  exact h
theorem M_downOctave {b : Int} {x y : Int32} (hx : x = iZ i) (hy : y = iZ b) (hb : 0 ≤ b ∧ b ≤ 6) (hD : DOK D) (hM : MD m D) (hi : i < D.1) (h1 : D.2.1 i 0 = 1) (h : K (some (vI (iZ ((nStep (D.2.1 i) - b) / 7)))) m) : smC true 185 [vR (some (23, 231)), vI x, vI y] m K := by
  subst hx; subst hy
  have hf := (hD.2.1 i hi).2.2.2.2.2.2.2.2.2.2.2 h1
  have e := (st_dn (l := D.2.1 i 1) (o := D.2.1 i 2) hf.1.1 hb).2
  refine smC_wp [some (vR (some (23, 231))), some (vI (iZ i)), some (vI (iZ b))] cd_185 [] 40 OK_185 (by decide) rfl rfl (Nat.le_of_ble_eq_true rfl) ?_
  refine And.intro trivial (M_of (w := 2) rfl rfl hD hM hi (by decide) ?_)
  rw [mw_id (by decide) (by decide)]
  refine And.intro trivial (M_of (w := 1) rfl rfl hD hM hi (by decide) ?_)
  rw [mw_id (by decide) (by decide)]
  unfold nStep at h
  rw [e] at h
  refine And.intro (fun z => ?_) (fun z => ?_)
  · rw [iZ_le (by constructor <;> omega) (by constructor <;> omega)] at z
    rw [if_neg (by omega)] at h
    refine And.intro trivial ?_
    rw [L0, iZ_sub]; exact h
  · rw [iZ_le (by constructor <;> omega) (by constructor <;> omega)] at z
    rw [if_pos (by omega)] at h
    refine And.intro trivial ?_
    rw [L1, iZ_sub]; exact h
theorem M_upper {key : Int} {x y : Int32} (hx : x = iZ i) (hy : y = iZ key) (hk : -7 ≤ key ∧ key ≤ 7) (hB : MB m) (hT : MTm m tm) (rh : R32 (tm 3)) (hD : DOK D) (hM : MD m D) (hi : i < D.1) (h1 : D.2.1 i 0 = 1)
    (h : K (some (vI (iZ (upN (D.2.1 i 3) (nStep (D.2.1 i)) (D.2.1 i 13) (D.2.1 i 15) key (tm 3))))) m) : smC true 179 [vR (some (23, 231)), vI x, vI y] m K := by
  subst hx; subst hy
  have hn := hD.2.1 i hi
  have hf := hn.2.2.2.2.2.2.2.2.2.2.2 h1
  have hp := hn.pit h1
  have hb := byN_lo (s := nStep (D.2.1 i) + 1) (sg := toldN (D.2.1 i 13) (tm 3) (D.2.1 i 15)) (key := key) (by omega) (toldN_rng hf.2.1.1 hf.2.1.2.2.1)
  refine smC_wp [some (vR (some (23, 231))), some (vI (iZ i)), some (vI (iZ key)), none] cd_179 [] 60 OK_179 (by decide) rfl rfl (Nat.le_of_ble_eq_true rfl) ?_
  refine And.intro trivial (M_of (w := 13) rfl rfl hD hM hi (by decide) ?_)
  rw [mw_id (by decide) (by decide)]
  refine And.intro trivial (M_of (w := 15) rfl rfl hD hM hi (by decide) ?_)
  rw [mw_id (by decide) (by decide)]
  refine And.intro trivial (M_upLetter rfl hD hM hi h1 ?_)
  refine And.intro trivial (M_upOctave rfl hD hM hi h1 ?_)
  refine And.intro trivial (M_neighbour rfl rfl rfl rfl rfl hB hT rh hf.2.1.1 hf.2.1.2.2.1 hk ?_)
  refine And.intro trivial (M_of (w := 3) rfl rfl hD hM hi (by decide) ?_)
  rw [mw_id (by decide) (by decide)]
  unfold upN at h
  refine And.intro (fun z => ?_) (fun z => ?_)
  · rw [iZ_le (by constructor <;> omega) (by constructor <;> omega)] at z
    refine And.intro trivial (M_of (w := 3) rfl rfl hD hM hi (by decide) ?_)
    rw [mw_id (by decide) (by decide)]
    refine And.intro trivial ?_
    rw [L1, iZ_add]
    rw [show max (byN (nStep (D.2.1 i) + 1) (toldN (D.2.1 i 13) (tm 3) (D.2.1 i 15)) key) (D.2.1 i 3 + 1) = D.2.1 i 3 + 1 by omega] at h
    exact h
  · rw [iZ_le (by constructor <;> omega) (by constructor <;> omega)] at z
    refine And.intro trivial ?_
    rw [show max (byN (nStep (D.2.1 i) + 1) (toldN (D.2.1 i 13) (tm 3) (D.2.1 i 15)) key) (D.2.1 i 3 + 1) = byN (nStep (D.2.1 i) + 1) (toldN (D.2.1 i 13) (tm 3) (D.2.1 i 15)) key by omega] at h
    exact h
theorem M_lower {key : Int} {x y : Int32} (hx : x = iZ i) (hy : y = iZ key) (hk : -7 ≤ key ∧ key ≤ 7) (hB : MB m) (hT : MTm m tm) (rh : R32 (tm 3)) (hD : DOK D) (hM : MD m D) (hi : i < D.1) (h1 : D.2.1 i 0 = 1)
    (h : K (some (vI (iZ (dnN (D.2.1 i 3) (nStep (D.2.1 i)) (D.2.1 i 14) (D.2.1 i 16) key (tm 3))))) m) : smC true 183 [vR (some (23, 231)), vI x, vI y] m K := by
  subst hx; subst hy
  have hn := hD.2.1 i hi
  have hf := hn.2.2.2.2.2.2.2.2.2.2.2 h1
  have hp := hn.pit h1
  have hb := byN_lo (s := nStep (D.2.1 i) - 1) (sg := toldN (D.2.1 i 14) (tm 3) (D.2.1 i 16)) (key := key) (by omega) (toldN_rng hf.2.1.2.1 hf.2.1.2.2.2.1)
  refine smC_wp [some (vR (some (23, 231))), some (vI (iZ i)), some (vI (iZ key)), none] cd_183 [] 60 OK_183 (by decide) rfl rfl (Nat.le_of_ble_eq_true rfl) ?_
  refine And.intro trivial (M_of (w := 14) rfl rfl hD hM hi (by decide) ?_)
  rw [mw_id (by decide) (by decide)]
  refine And.intro trivial (M_of (w := 16) rfl rfl hD hM hi (by decide) ?_)
  rw [mw_id (by decide) (by decide)]
  refine And.intro trivial (M_downLetter (b := 1) rfl rfl (by decide) hD hM hi h1 ?_)
  refine And.intro trivial (M_downOctave (b := 1) rfl rfl (by decide) hD hM hi h1 ?_)
  refine And.intro trivial (M_neighbour rfl rfl rfl rfl rfl hB hT rh hf.2.1.2.1 hf.2.1.2.2.2.1 hk ?_)
  refine And.intro trivial (M_of (w := 3) rfl rfl hD hM hi (by decide) ?_)
  rw [mw_id (by decide) (by decide)]
  unfold dnN at h
  refine And.intro (fun z => ?_) (fun z => ?_)
  · rw [iZ_le (by constructor <;> omega) (by constructor <;> omega)] at z
    refine And.intro trivial (M_of (w := 3) rfl rfl hD hM hi (by decide) ?_)
    rw [mw_id (by decide) (by decide)]
    refine And.intro trivial ?_
    rw [L1, iZ_sub]
    rw [show min (byN (nStep (D.2.1 i) - 1) (toldN (D.2.1 i 14) (tm 3) (D.2.1 i 16)) key) (D.2.1 i 3 - 1) = D.2.1 i 3 - 1 by omega] at h
    exact h
  · rw [iZ_le (by constructor <;> omega) (by constructor <;> omega)] at z
    refine And.intro trivial ?_
    rw [show min (byN (nStep (D.2.1 i) - 1) (toldN (D.2.1 i 14) (tm 3) (D.2.1 i 16)) key) (D.2.1 i 3 - 1) = byN (nStep (D.2.1 i) - 1) (toldN (D.2.1 i 14) (tm 3) (D.2.1 i 16)) key by omega] at h
    exact h
theorem M_lowest {x : Int32} (hx : x = iZ i) (hB : MB m) (hT : MTm m tm) (rh : R32 (tm 3)) (hD : DOK D) (hM : MD m D) (hi : i < D.1) (h1 : D.2.1 i 0 = 1)
    (h : K (some (vI (iZ (Pk (tm 3) (D.2.1 i) 4).1))) m) : smC true 195 [vR (some (23, 231)), vI x] m K := by
  subst hx
  have hn := hD.2.1 i hi
  have hk := hn.2.2.2.2.2.1
  have hf := hn.2.2.2.2.2.2.2.2.2.2.2 h1
  have hp := hn.pit h1
  have hb := byN_lo (s := nStep (D.2.1 i) - 2) (sg := toldN 2 (tm 3) (D.2.1 i 17)) (key := D.2.1 i 8) (by omega) (toldN_rng (by decide) hf.2.1.2.2.2.2)
  have hl := (Pk_ok (hold := tm 3) hn h1).2.2
  have hl2 := (Pk_ok (hold := tm 3) hn h1).1.2.2.1.1
  change 8 ≤ dnN (D.2.1 i 3) (nStep (D.2.1 i)) (D.2.1 i 14) (D.2.1 i 16) (D.2.1 i 8) (tm 3) at hl
  change 0 ≤ dnN (D.2.1 i 3) (nStep (D.2.1 i)) (D.2.1 i 14) (D.2.1 i 16) (D.2.1 i 8) (tm 3) ∧ dnN (D.2.1 i 3) (nStep (D.2.1 i)) (D.2.1 i 14) (D.2.1 i 16) (D.2.1 i 8) (tm 3) < 200 at hl2
  refine smC_wp [some (vR (some (23, 231))), some (vI (iZ i)), none, none] cd_195 [] 60 OK_195 (by decide) rfl rfl (Nat.le_of_ble_eq_true rfl) ?_
  refine And.intro trivial (M_of (w := 17) rfl rfl hD hM hi (by decide) ?_)
  rw [mw_id (by decide) (by decide)]
  refine And.intro trivial (M_of (w := 8) rfl rfl hD hM hi (by decide) ?_)
  rw [mw_id (by decide) (by decide)]
  refine And.intro trivial (M_downLetter (b := 2) rfl rfl (by decide) hD hM hi h1 ?_)
  refine And.intro trivial (M_downOctave (b := 2) rfl rfl (by decide) hD hM hi h1 ?_)
  refine And.intro trivial (M_neighbour (told := 2) rfl rfl rfl rfl rfl hB hT rh (by decide) hf.2.1.2.2.2.2 hk ?_)
  refine And.intro trivial (M_of (w := 8) rfl rfl hD hM hi (by decide) ?_)
  rw [mw_id (by decide) (by decide)]
  refine And.intro trivial (M_lower rfl rfl hk hB hT rh hD hM hi h1 ?_)
  change K (some (vI (iZ (loN (dnN (D.2.1 i 3) (nStep (D.2.1 i)) (D.2.1 i 14) (D.2.1 i 16) (D.2.1 i 8) (tm 3)) (nStep (D.2.1 i)) (D.2.1 i 17) (D.2.1 i 8) (tm 3))))) m at h
  unfold loN at h
  refine And.intro (fun z => ?_) (fun z => ?_)
  · rw [iZ_le (by constructor <;> omega) (by constructor <;> omega)] at z
    refine And.intro trivial ?_
    rw [L1, iZ_sub]
    rw [show ∀ a b : Int, b ≤ a → min a (b - 1) = b - 1 by intro a b q; omega] at h
    · exact h
    · exact z
  · rw [iZ_le (by constructor <;> omega) (by constructor <;> omega)] at z
    refine And.intro trivial ?_
    rw [show ∀ a b : Int, ¬ b ≤ a → min a (b - 1) = a by intro a b q; omega] at h
    · exact h
    · exact z
end ATI
end MPIT
