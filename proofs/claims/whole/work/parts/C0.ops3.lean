/-! terms, body, sign, bare, after: the Model -/
section OPS3
variable {m m' : Mem} {K : Option SV → Mem → Prop} {tp : Nat → Int} {td : Nat} {fl : Int × Int} {tm : Nat → Int} {D : Dt} {f f' : NF} {i : Int}
/-- a call of the Model begins: thrown = 0 -/
theorem MI.b0 (h : MI m tp td fl tm D) : MI (sI m 23 231 0 0) tp td fl tm D ∧ Fr AMq m (sI m 23 231 0 0) := ⟨h.fq (Fr.st (Or.inl ⟨rfl, rfl, Or.inl rfl⟩)), Fr.st (Or.inl ⟨rfl, rfl, Or.inl rfl⟩)⟩
theorem Q_terms {w v : Int} {x y : Int32} (hx : x = iZ w) (hy : y = iZ v) (rw' : R32 w) (rv : R32 v) (hS : SI tp td tm D) (h : MI m tp td fl tm D)
    (hk : ∀ m', MI m' tp td fl (tmS tm w v).2 D → Fr AMa m m' → K (some (vI (iZ (tmS tm w v).1))) m') : smC true 164 [vR (some (23, 231)), vI x, vI y] m K := by
  subst hx; subst hy
  unfold tmS at hk
  refine smC_wp [some (vR (some (23, 231))), some (vI (iZ w)), some (vI (iZ v)), none] cd_164 [5] 60 OK_164 (by decide) rfl rfl (Nat.le_of_ble_eq_true rfl) ?_
  refine And.intro trivial ?_
  obtain ⟨h0, F0⟩ := h.b0
  generalize sI m 23 231 0 0 = m0 at *
  have G0 : Fr AMa m m0 := F0.mono (fun t n k z => AMq_a z)
  refine wp1_ok (by decide) OK_164 (cc := cd_164) rfl (stops := [20]) (f := 60) ?_
  refine And.intro trivial (M_in (v := w) (lo := 0) (hi := 6) rfl rw' (by decide) (by decide) rfl rfl (fun hw => ?_) (fun hw => ?_))
  rotate_left
  · rw [if_neg hw] at hk
    refine And.intro (fun z => absurd rfl z) (fun _ => ?_)
    exact And.intro trivial (hk m0 h0 G0)
  rw [if_pos hw] at hk
  have hw7 : w.toNat < 7 := by omega
  have ec : (iZ w).toNatClampNeg = w.toNat := iZ_clamp rw'
  have hin : vp_in (iZ w) 7 := (iZ_in rw').mpr (by omega)
  have lr := lh_rng w.toNat hw7
  have ll := h0.1.2.2 w.toNat hw7
  refine And.intro (fun _ => ?_) (fun z => absurd z (by decide))
  refine And.intro trivial ?_
  have cant : ¬ okTV w v → smE true 164 55 [some (vR (some (23, 231))), some (vI (iZ w)), some (vI (iZ v)), none] [] m0 K := by
    intro z
    rw [if_neg z] at hk
    refine wp_ok (by decide) OK_164 (cc := cd_164) rfl (stops := []) 20 _ _ _ _ ?_
    exact And.intro trivial (hk m0 h0 G0)
  have good : okTV w v → smE true 164 58 [some (vR (some (23, 231))), some (vI (iZ w)), some (vI (iZ v)), none] [] m0 K := by
    intro z
    rw [if_pos z] at hk
    refine wp_ok (by decide) OK_164 (cc := cd_164) rfl (stops := []) 40 _ _ _ _ ?_
    refine And.intro hin ?_
    refine And.intro hin ?_
    refine And.intro trivial ?_
    rw [ec, h0.2.1 _ hw7]
    have F : Fr (fun t n k => t = 24 ∧ n = 232 ∧ k = w.toNat) m0 (sI m0 24 232 w.toNat (iZ v)) := Fr.st ⟨rfl, rfl, rfl⟩
    have e5 : ∀ k, k < 7 → gI (sI m0 24 232 w.toNat (iZ v)) 24 232 k = iZ (upq tm w.toNat v k) := by
      intro k hk
      rw [gI_s]
      by_cases e : k = w.toNat
      · rw [if_pos ⟨e, rfl, rfl⟩, e, upq_s]
      · rw [if_neg (by omega), upq_n e]; exact h0.2.1 k hk
    generalize sI m0 24 232 w.toNat (iZ v) = m1 at *
    obtain ⟨⟨⟨b1, b2⟩, hw', hl⟩, ht, ⟨⟨d1, d2, d3⟩, d4, d5⟩, ⟨p1, p2⟩, f1, f2⟩ := h0
    have g : ∀ {t n k : Nat}, t ≠ 24 → gI m1 t n k = gI m0 t n k := fun u => F.2 _ _ _ (by omega)
    refine hk m1 ⟨⟨⟨fun k hk => (g (by omega)).trans (b1 k hk), ?_⟩, fun k hk => (g (by omega)).trans (hw' k hk), fun k hk => ⟨(g (by omega)).trans (hl k hk).1, (g (by omega)).trans (hl k hk).2⟩⟩, e5, ⟨⟨(g (by omega)).trans d1, (g (by omega)).trans d2, (g (by omega)).trans d3⟩, fun i w hi hw => (g (by omega)).trans (d4 i w hi hw), fun k hk => (g (by omega)).trans (d5 k hk)⟩, ⟨fun k hk => (g (by omega)).trans (p1 k hk), (g (by omega)).trans p2⟩, (g (by omega)).trans f1, (g (by omega)).trans f2⟩ (G0.tr (F.mono (fun t n k z => by unfold AMa; omega)))
    obtain ⟨c0, c1, c2, c3, c4, c5, c6⟩ := b2
    exact ⟨(g (by omega)).trans c0, (g (by omega)).trans c1, (g (by omega)).trans c2, (g (by omega)).trans c3, (g (by omega)).trans c4, (g (by omega)).trans c5, (g (by omega)).trans c6⟩
  refine wp1_ok (by decide) OK_164 (cc := cd_164) rfl (stops := [55, 58]) (f := 60) ?_
  refine And.intro hin ?_
  refine And.intro hin ?_
  have l1 : (gI m0 25 233 (iZ w).toNatClampNeg).toInt64 = iL (loT w.toNat) := by rw [ec, ll.1]; exact iZ_iL (by constructor <;> omega)
  have l2 : (gI m0 26 234 (iZ w).toNatClampNeg).toInt64 = iL (hiT w.toNat) := by rw [ec, ll.2]; exact iZ_iL (by constructor <;> omega)
  refine And.intro trivial (M_isIn (v := v) (lo := loT w.toNat) (hi := hiT w.toNat) (iZ_iL rv) l1 l2 (by obtain ⟨u, v⟩ := rv; constructor <;> omega) (by constructor <;> omega) (by constructor <;> omega) (fun q => ?_) (fun q => ?_))
  rotate_left
  · refine And.intro (fun _ => ?_) (fun z => absurd rfl z)
    exact And.intro trivial (cant (fun z => q ⟨z.1, z.2.1⟩))
  refine And.intro (fun z => absurd z (by decide)) (fun _ => ?_)
  refine And.intro (fun s => ?_) (fun s => ?_)
  · rw [L1, iZ_eq rw' (by decide)] at s
    exact And.intro trivial (good ⟨q.1, q.2, fun e => absurd e s⟩)
  rw [L1, iZ_eq rw' (by decide)] at s
  have hv8 : 8 ≤ v := by have := q.1; rw [s] at this; exact this
  refine And.intro (fun e => ?_) (fun e => ?_)
  · exact And.intro trivial (good ⟨q.1, q.2, fun _ => by unfold pw2; simp; exact ⟨by omega, e⟩⟩)
  · refine And.intro trivial (cant (fun z => ?_))
    have := z.2.2 s
    unfold pw2 at this
    simp at this
    exact e this.2
/-- a row of the song -/
def MRo (m : Mem) (i : Nat) (g : Nat → Int32) : Prop := ∀ w, w < 30 → gI m 29 237 (4 + 30 * i + w) = g w
def ARo (i : Nat) : Nat → Nat → Nat → Prop := fun t n k => t = 29 ∧ n = 237 ∧ 4 + 30 * i ≤ k ∧ k < 34 + 30 * i
theorem ARo_e {i t n k : Nat} (h : ARo i t n k) : AMe i t n k := Or.inr h
theorem M_lays {i w : Nat} {g : Nat → Int32} {x y v : Int32} (hx : x = iZ i) (hy : y = iZ w) (hi : i < 48) (hw : w < 30) (hM : MRo m i g) (h : ∀ m', MRo m' i (upd g w v) → Fr (ARo i) m m' → K none m') : smC true 170 [vR (some (23, 231)), vI x, vI y, vI v] m K := by
  subst hx; subst hy
  have e : (4 : Int32) + 30 * iZ (i : Int) + iZ (w : Int) = iZ ((4 + 30 * i + w : Nat) : Int) := by rw [L4, L30, iZ_mul, iZ_add, iZ_add]; congr 1
  have c : (iZ ((4 + 30 * i + w : Nat) : Int)).toNatClampNeg = 4 + 30 * i + w := by rw [iZ_clamp (by constructor <;> omega)]; omega
  refine smC_wp [some (vR (some (23, 231))), some (vI (iZ i)), some (vI (iZ w)), some (vI v)] cd_170 [] 40 OK_170 (by decide) rfl rfl (Nat.le_of_ble_eq_true rfl) ?_
  refine And.intro (by rw [e]; exact (iZ_in (by constructor <;> omega)).mpr (by omega)) ?_
  refine And.intro trivial ?_
  rw [e, c]
  refine h _ (fun k hk => ?_) (Fr.st ⟨rfl, rfl, by omega, by omega⟩)
  rw [gI_s]
  by_cases e' : k = w
  · rw [if_pos ⟨by rw [e'], rfl, rfl⟩, e', u_s]
  · rw [if_neg (by omega), u_n e']; exact hM k hk
theorem M_ofR {i w : Nat} {g : Nat → Int32} {x y : Int32} (hx : x = iZ i) (hy : y = iZ w) (hi : i < 48) (hw : w < 30) (hM : MRo m i g) (h : K (some (vI (g w))) m) : smC true 168 [vR (some (23, 231)), vI x, vI y] m K := by
  subst hx; subst hy
  have e : (4 : Int32) + 30 * iZ (i : Int) + iZ (w : Int) = iZ ((4 + 30 * i + w : Nat) : Int) := by rw [L4, L30, iZ_mul, iZ_add, iZ_add]; congr 1
  have c : (iZ ((4 + 30 * i + w : Nat) : Int)).toNatClampNeg = 4 + 30 * i + w := by rw [iZ_clamp (by constructor <;> omega)]; omega
  refine smC_wp [some (vR (some (23, 231))), some (vI (iZ i)), some (vI (iZ w))] cd_168 [] 40 OK_168 (by decide) rfl rfl (Nat.le_of_ble_eq_true rfl) ?_
  refine And.intro (by rw [e]; exact (iZ_in (by constructor <;> omega)).mpr (by omega)) ?_
  rw [e, c, hM w hw]
  exact And.intro trivial h
theorem MI.row {i : Nat} (h : MI m tp td fl tm D) (hi : i < D.1) : MRo m i (fun w => iZ (mw w (D.2.1 i w))) := fun w hw => h.2.2.1.2.1 i w hi hw
theorem mw_up {f : NF} {k : Nat} {v : Int} (hk : 10 ≤ k) : ∀ w, w < 30 → upd (fun w => iZ (mw w (f w))) k (iZ v) w = iZ (mw w (upq f k v w)) := by
  intro w hw
  by_cases e : w = k
  · subst e
    rw [u_s, upq_s]
    unfold mw
    rw [if_neg (by omega)]
  · rw [u_n e, upq_n e]
theorem M_becomes {i : Nat} {kd : Int} {x y : Int32} (hx : x = iZ i) (hy : y = iZ kd) (hi : i < 48) (rk : R32 kd) (r12 : R32 (f 12)) (hM : MRo m i (fun w => iZ (mw w (f w)))) (h : ∀ m', MRo m' i (fun w => iZ (mw w (bdF f kd w))) → Fr (ARo i) m m' → K none m') : smC true 169 [vR (some (23, 231)), vI x, vI y] m K := by
  subst hx; subst hy
  refine smC_wp [some (vR (some (23, 231))), some (vI (iZ i)), some (vI (iZ kd))] cd_169 [54] 60 OK_169 (by decide) rfl rfl (Nat.le_of_ble_eq_true rfl) ?_
  refine And.intro trivial (M_lays (w := 10) rfl rfl hi (by decide) hM (fun m1 W1 F1 => ?_))
  refine And.intro trivial (M_lays (w := 13) rfl rfl hi (by decide) W1 (fun m2 W2 F2 => ?_))
  refine And.intro trivial (M_lays (w := 14) rfl rfl hi (by decide) W2 (fun m3 W3 F3 => ?_))
  have F3 := (F1.tr F2).tr F3
  have g12 : upd (upd (upd (fun w => iZ (mw w (f w))) 10 (iZ kd)) 13 2) 14 2 12 = iZ (f 12) := rfl
  refine And.intro trivial (M_ofR (w := 12) rfl rfl hi (by decide) W3 ?_)
  rw [g12]
  have keep : ¬ (f 12 = 1 ∧ ¬ (kd = 1 ∨ kd = 8)) → smE true 169 54 [some (vR (some (23, 231))), some (vI (iZ i)), some (vI (iZ kd))] [] m3 K := by
    intro z
    refine wp_ok (by decide) OK_169 (cc := cd_169) rfl (stops := []) 20 _ _ _ _ ?_
    refine And.intro trivial (h m3 (fun w hw => (W3 w hw).trans ?_) F3)
    have eb : bdF f kd 12 = f 12 := by show (if f 12 = 1 ∧ ¬ (kd = 1 ∨ kd = 8) then 0 else f 12) = f 12; rw [if_neg z]
    by_cases e12 : w = 12
    · subst e12; rw [g12]; show iZ (f 12) = iZ (mw 12 (bdF f kd 12)); rw [eb]; rfl
    · by_cases e14 : w = 14
      · subst e14; rfl
      · by_cases e13 : w = 13
        · subst e13; rfl
        · by_cases e10 : w = 10
          · subst e10; rfl
          · rw [u_n e14, u_n e13, u_n e10]
            have : bdF f kd w = f w := by unfold bdF; rw [if_neg e10, if_neg (by omega), if_neg e12]
            show iZ (mw w (f w)) = iZ (mw w (bdF f kd w)); rw [this]
  refine And.intro (fun u => ?_) (fun u => ?_)
  · rw [L1, iZ_eq r12 (by decide)] at u
    exact And.intro trivial (keep (fun z => u z.1))
  rw [L1, iZ_eq r12 (by decide)] at u
  refine And.intro (fun v => ?_) (fun v => ?_)
  · rw [L1, iZ_eq rk (by decide)] at v
    exact And.intro trivial (keep (fun z => z.2 (Or.inl v)))
  rw [L1, iZ_eq rk (by decide)] at v
  refine And.intro (fun w => ?_) (fun w => ?_)
  · rw [L8, iZ_eq rk (by decide)] at w
    exact And.intro trivial (keep (fun z => z.2 (Or.inr w)))
  rw [L8, iZ_eq rk (by decide)] at w
  refine And.intro trivial (M_lays (w := 12) rfl rfl hi (by decide) W3 (fun m4 W4 F4 => ?_))
  refine And.intro trivial ?_
  refine wp_ok (by decide) OK_169 (cc := cd_169) rfl (stops := []) 20 _ _ _ _ ?_
  refine And.intro trivial (h m4 (fun w' hw => (W4 w' hw).trans ?_) (F3.tr F4))
  by_cases e12 : w' = 12
  · subst e12; rw [u_s]
    show (0 : Int32) = iZ (mw 12 (if f 12 = 1 ∧ ¬ (kd = 1 ∨ kd = 8) then 0 else f 12))
    rw [if_pos ⟨u, by omega⟩]; rfl
  · rw [u_n e12]
    by_cases e14 : w' = 14
    · subst e14; rfl
    · by_cases e13 : w' = 13
      · subst e13; rfl
      · by_cases e10 : w' = 10
        · subst e10; rfl
        · rw [u_n e14, u_n e13, u_n e10]
          have : bdF f kd w' = f w' := by unfold bdF; rw [if_neg e10, if_neg (by omega), if_neg e12]
          show iZ (mw w' (f w')) = iZ (mw w' (bdF f kd w')); rw [this]
theorem Q_body {kd : Int} {x y : Int32} (hx : x = iZ i) (hy : y = iZ kd) (ri : R32 i) (rk : R32 kd) (hS : SI tp td tm D) (h : MI m tp td fl tm D)
    (hk : ∀ m', MI m' tp td fl tm (bdS D i kd).2 → Fr AMa m m' → K (some (vI (iZ (bdS D i kd).1))) m') : smC true 165 [vR (some (23, 231)), vI x, vI y] m K := by
  subst hx; subst hy
  unfold bdS at hk
  refine smC_wp [some (vR (some (23, 231))), some (vI (iZ i)), some (vI (iZ kd)), none] cd_165 [5] 60 OK_165 (by decide) rfl rfl (Nat.le_of_ble_eq_true rfl) ?_
  refine And.intro trivial ?_
  obtain ⟨h0, F0⟩ := h.b0
  generalize sI m 23 231 0 0 = m0 at *
  have G0 : Fr AMa m m0 := F0.mono (fun t n k z => AMq_a z)
  refine wp1_ok (by decide) OK_165 (cc := cd_165) rfl (stops := []) (f := 60) ?_
  refine And.intro trivial (M_isNote rfl ri hS.dok h0.2.2.1 (fun q => ?_) (fun q => ?_))
  rotate_left
  · rw [if_neg q] at hk
    refine And.intro (fun z => absurd rfl z) (fun _ => ?_)
    exact And.intro trivial (hk m0 h0 G0)
  rw [if_pos q] at hk
  have hn := hS.nok q
  have h48 := hS.dok.1
  have ei : iZ i = iZ (i.toNat : Int) := by rw [Int.toNat_of_nonneg q.1]
  refine And.intro (fun _ => ?_) (fun z => absurd z (by decide))
  refine And.intro trivial (M_in (v := kd) (lo := 0) (hi := 8) rfl rk (by decide) (by decide) rfl rfl (fun z => ?_) (fun z => ?_))
  rotate_left
  · rw [if_neg z] at hk
    refine And.intro (fun z => absurd rfl z) (fun _ => ?_)
    exact And.intro trivial (hk m0 h0 G0)
  rw [if_pos z] at hk
  refine And.intro (fun _ => ?_) (fun z => absurd z (by decide))
  have r12 := hn.1.2.2.2.2.2.2.2.2.2.1
  refine And.intro trivial (M_of (i := i.toNat) (w := 10) ei rfl hS.dok h0.2.2.1 hn.2 (by decide) ?_)
  refine And.intro trivial (M_becomes (i := i.toNat) (f := D.2.1 i.toNat) ei rfl (by omega) rk (by constructor <;> omega) (h0.row hn.2) (fun m1 W1 F1 => ?_))
  refine And.intro trivial (hk m1 (h0.ed hS.dok hn.2 (F1.mono (fun t n k z => ARo_e z)) W1) (G0.tr (F1.mono (fun t n k z => AMe_a (ARo_e z)))))
theorem Q_sign {up s : Int} {x y w : Int32} (hx : x = iZ i) (hy : y = iZ up) (hw : w = iZ s) (ri : R32 i) (ru : R32 up) (rs : R32 s) (hS : SI tp td tm D) (h : MI m tp td fl tm D)
    (hk : ∀ m', MI m' tp td fl tm (sgS D i up s).2 → Fr AMa m m' → K (some (vI (iZ (sgS D i up s).1))) m') : smC true 171 [vR (some (23, 231)), vI x, vI y, vI w] m K := by
  subst hx; subst hy; subst hw
  unfold sgS at hk
  refine smC_wp [some (vR (some (23, 231))), some (vI (iZ i)), some (vI (iZ up)), some (vI (iZ s)), none, none] cd_171 [5] 60 OK_171 (by decide) rfl rfl (Nat.le_of_ble_eq_true rfl) ?_
  refine And.intro trivial ?_
  obtain ⟨h0, F0⟩ := h.b0
  generalize sI m 23 231 0 0 = m0 at *
  have G0 : Fr AMa m m0 := F0.mono (fun t n k z => AMq_a z)
  refine wp1_ok (by decide) OK_171 (cc := cd_171) rfl (stops := [40, 43]) (f := 60) ?_
  refine And.intro trivial (M_isNote rfl ri hS.dok h0.2.2.1 (fun q => ?_) (fun q => ?_))
  rotate_left
  · rw [if_neg q] at hk
    refine And.intro (fun z => absurd rfl z) (fun _ => ?_)
    exact And.intro trivial (hk m0 h0 G0)
  rw [if_pos q] at hk
  have hn := hS.nok q
  have h48 := hS.dok.1
  have ei : iZ i = iZ (i.toNat : Int) := by rw [Int.toNat_of_nonneg q.1]
  have r10 := hn.1.2.2.2.2.2.2.2.1
  refine And.intro (fun _ => ?_) (fun z => absurd z (by decide))
  have cant : ¬ ((0 ≤ up ∧ up ≤ 1) ∧ (-1 ≤ s ∧ s ≤ 2)) → smE true 171 40 [some (vR (some (23, 231))), some (vI (iZ i)), some (vI (iZ up)), some (vI (iZ s)), none, none] [] m0 K := by
    intro z
    rw [if_neg z] at hk
    refine wp_ok (by decide) OK_171 (cc := cd_171) rfl (stops := []) 20 _ _ _ _ ?_
    exact And.intro trivial (hk m0 h0 G0)
  refine And.intro trivial (M_in (v := up) (lo := 0) (hi := 1) rfl ru (by decide) (by decide) rfl rfl (fun z => ?_) (fun z => ?_))
  rotate_left
  · refine And.intro (fun _ => ?_) (fun z => absurd rfl z)
    exact And.intro trivial (cant (fun y => z y.1))
  refine And.intro (fun z => absurd z (by decide)) (fun _ => ?_)
  refine And.intro trivial (M_isIn (v := s) (lo := -1) (hi := 2) (iZ_iL rs) rfl rfl (by obtain ⟨u, v⟩ := rs; constructor <;> omega) (by decide) (by decide) (fun y => ?_) (fun y => ?_))
  rotate_left
  · refine And.intro (fun z => absurd rfl z) (fun _ => ?_)
    exact And.intro trivial (cant (fun z => y z.2))
  refine And.intro (fun _ => ?_) (fun z => absurd z (by decide))
  have hr : (0 ≤ up ∧ up ≤ 1) ∧ (-1 ≤ s ∧ s ≤ 2) := ⟨z, y⟩
  rw [if_pos hr] at hk
  refine And.intro trivial ?_
  refine wp1_ok (by decide) OK_171 (cc := cd_171) rfl (stops := [68]) (f := 60) ?_
  refine And.intro trivial (M_of (i := i.toNat) (w := 10) ei rfl hS.dok h0.2.2.1 hn.2 (by decide) ?_)
  have e10 : iZ (mw 10 (D.2.1 i.toNat 10)) = iZ (D.2.1 i.toNat 10) := rfl
  rw [e10]
  refine And.intro (fun w => ?_) (fun w => ?_)
  rotate_left
  · rw [L0, iZ_eq (by constructor <;> omega) (by decide)] at w
    rw [if_pos w] at hk
    exact And.intro trivial (hk m0 h0 G0)
  rw [L0, iZ_eq (by constructor <;> omega) (by decide)] at w
  rw [if_neg w] at hk
  have fin : ∀ (v : Int32), v = iZ (sgW up) → smE true 171 68 [some (vR (some (23, 231))), some (vI (iZ i)), some (vI (iZ up)), some (vI (iZ s)), none, none] [vI v] m0 K := by
    intro v hv
    have hw30 : sgW up < 30 ∧ 10 ≤ sgW up := by unfold sgW; split <;> omega
    refine wp_ok (by decide) OK_171 (cc := cd_171) rfl (stops := []) 40 _ _ _ _ ?_
    refine And.intro trivial (M_of (i := i.toNat) (w := sgW up) ei hv hS.dok h0.2.2.1 hn.2 hw30.1 ?_)
    have e1 : mw (sgW up) (D.2.1 i.toNat (sgW up)) = D.2.1 i.toNat (sgW up) := by unfold mw; rw [if_neg (by omega)]
    rw [e1]
    refine And.intro trivial (M_lays (i := i.toNat) (w := sgW up) ei hv (by omega) hw30.1 (h0.row hn.2) (fun m1 W1 F1 => ?_))
    exact And.intro trivial (hk m1 (h0.ed hS.dok hn.2 (F1.mono (fun t n k z => ARo_e z)) (fun k hk => (W1 k hk).trans (mw_up hw30.2 k hk))) (G0.tr (F1.mono (fun t n k z => AMe_a (ARo_e z)))))
  refine And.intro (fun o => ?_) (fun o => ?_)
  · rw [L1, iZ_eq ru (by decide)] at o
    exact And.intro trivial (fin 14 (by unfold sgW; rw [if_neg o]; rfl))
  · rw [L1, iZ_eq ru (by decide)] at o
    exact And.intro trivial (fin 13 (by unfold sgW; rw [if_pos o]; rfl))
theorem Q_bare {x : Int32} (hx : x = iZ i) (ri : R32 i) (hS : SI tp td tm D) (h : MI m tp td fl tm D)
    (hk : ∀ m', MI m' tp td fl tm (brS D i).2 → Fr AMa m m' → K (some (vI (iZ (brS D i).1))) m') : smC true 172 [vR (some (23, 231)), vI x] m K := by
  subst hx
  unfold brS at hk
  refine smC_wp [some (vR (some (23, 231))), some (vI (iZ i)), none] cd_172 [5] 60 OK_172 (by decide) rfl rfl (Nat.le_of_ble_eq_true rfl) ?_
  refine And.intro trivial ?_
  obtain ⟨h0, F0⟩ := h.b0
  generalize sI m 23 231 0 0 = m0 at *
  have G0 : Fr AMa m m0 := F0.mono (fun t n k z => AMq_a z)
  refine wp1_ok (by decide) OK_172 (cc := cd_172) rfl (stops := [32]) (f := 60) ?_
  refine And.intro trivial (M_isNote rfl ri hS.dok h0.2.2.1 (fun q => ?_) (fun q => ?_))
  rotate_left
  · rw [if_neg q] at hk
    refine And.intro (fun z => absurd rfl z) (fun _ => ?_)
    exact And.intro trivial (hk m0 h0 G0)
  rw [if_pos q] at hk
  have hn := hS.nok q
  have h48 := hS.dok.1
  have ei : iZ i = iZ (i.toNat : Int) := by rw [Int.toNat_of_nonneg q.1]
  have r11 := hn.1.2.2.2.2.2.2.2.2.1
  refine And.intro (fun _ => ?_) (fun z => absurd z (by decide))
  refine And.intro trivial (M_of (i := i.toNat) (w := 11) ei rfl hS.dok h0.2.2.1 hn.2 (by decide) ?_)
  have e11 : iZ (mw 11 (D.2.1 i.toNat 11)) = iZ (D.2.1 i.toNat 11) := rfl
  rw [e11]
  refine And.intro trivial (M_lays (i := i.toNat) (w := 11) (v := iZ 0) ei rfl (by omega) (by decide) (h0.row hn.2) (fun m1 W1 F1 => ?_))
  have hk := hk m1 (h0.ed hS.dok hn.2 (F1.mono (fun t n k z => ARo_e z)) (fun k hk => (W1 k hk).trans (mw_up (by decide) k hk))) (G0.tr (F1.mono (fun t n k z => AMe_a (ARo_e z))))
  simp only at hk
  refine And.intro trivial ?_
  refine wp1_ok (by decide) OK_172 (cc := cd_172) rfl (stops := []) (f := 60) ?_
  refine And.intro (fun o => ?_) (fun o => ?_)
  rotate_left
  · rw [L5, iZ_eq (by constructor <;> omega) (by decide)] at o
    rw [if_pos o] at hk
    exact And.intro trivial hk
  rw [L5, iZ_eq (by constructor <;> omega) (by decide)] at o
  rw [if_neg o] at hk
  refine And.intro (fun p => ?_) (fun p => ?_)
  · rw [L6, iZ_eq (by constructor <;> omega) (by decide)] at p
    rw [if_neg p] at hk
    exact And.intro trivial hk
  · rw [L6, iZ_eq (by constructor <;> omega) (by decide)] at p
    rw [if_pos p] at hk
    exact And.intro trivial hk
theorem Q_after {s : Int} {x y : Int32} (hx : x = iZ i) (hy : y = iZ s) (ri : R32 i) (rs : R32 s) (hS : SI tp td tm D) (h : MI m tp td fl tm D)
    (hk : ∀ m', MI m' tp td fl tm (afS D i s).2 → Fr AMa m m' → K (some (vI (iZ (afS D i s).1))) m') : smC true 173 [vR (some (23, 231)), vI x, vI y] m K := by
  subst hx; subst hy
  unfold afS at hk
  refine smC_wp [some (vR (some (23, 231))), some (vI (iZ i)), some (vI (iZ s)), none] cd_173 [5] 60 OK_173 (by decide) rfl rfl (Nat.le_of_ble_eq_true rfl) ?_
  refine And.intro trivial ?_
  obtain ⟨h0, F0⟩ := h.b0
  generalize sI m 23 231 0 0 = m0 at *
  have G0 : Fr AMa m m0 := F0.mono (fun t n k z => AMq_a z)
  refine wp1_ok (by decide) OK_173 (cc := cd_173) rfl (stops := [62]) (f := 60) ?_
  refine And.intro trivial (M_isNote rfl ri hS.dok h0.2.2.1 (fun q => ?_) (fun q => ?_))
  rotate_left
  · rw [if_neg q] at hk
    refine And.intro (fun z => absurd rfl z) (fun _ => ?_)
    exact And.intro trivial (hk m0 h0 G0)
  rw [if_pos q] at hk
  have hn := hS.nok q
  have h48 := hS.dok.1
  have ei : iZ i = iZ (i.toNat : Int) := by rw [Int.toNat_of_nonneg q.1]
  have r10 := hn.1.2.2.2.2.2.2.2.1
  refine And.intro (fun _ => ?_) (fun z => absurd z (by decide))
  refine And.intro trivial (M_in (v := s) (lo := 0) (hi := 2) rfl rs (by decide) (by decide) rfl rfl (fun z => ?_) (fun z => ?_))
  rotate_left
  · rw [if_neg z] at hk
    refine And.intro (fun z => absurd rfl z) (fun _ => ?_)
    exact And.intro trivial (hk m0 h0 G0)
  rw [if_pos z] at hk
  refine And.intro (fun _ => ?_) (fun z => absurd z (by decide))
  have e10 : iZ (mw 10 (D.2.1 i.toNat 10)) = iZ (D.2.1 i.toNat 10) := rfl
  have good : ¬ (s = 1 ∧ ¬ (D.2.1 i.toNat 10 = 1 ∨ D.2.1 i.toNat 10 = 8)) → smE true 173 62 [some (vR (some (23, 231))), some (vI (iZ i)), some (vI (iZ s)), none] [] m0 K := by
    intro o
    rw [if_neg o] at hk
    refine wp_ok (by decide) OK_173 (cc := cd_173) rfl (stops := []) 30 _ _ _ _ ?_
    refine And.intro trivial (M_of (i := i.toNat) (w := 12) ei rfl hS.dok h0.2.2.1 hn.2 (by decide) ?_)
    refine And.intro trivial (M_lays (i := i.toNat) (w := 12) ei rfl (by omega) (by decide) (h0.row hn.2) (fun m1 W1 F1 => ?_))
    exact And.intro trivial (hk m1 (h0.ed hS.dok hn.2 (F1.mono (fun t n k z => ARo_e z)) (fun k hk => (W1 k hk).trans (mw_up (by decide) k hk))) (G0.tr (F1.mono (fun t n k z => AMe_a (ARo_e z)))))
  refine And.intro (fun o => ?_) (fun o => ?_)
  · rw [L1, iZ_eq rs (by decide)] at o
    exact And.intro trivial (good (fun q => o q.1))
  rw [L1, iZ_eq rs (by decide)] at o
  refine And.intro trivial (M_of (i := i.toNat) (w := 10) ei rfl hS.dok h0.2.2.1 hn.2 (by decide) ?_)
  rw [e10]
  refine And.intro (fun p => ?_) (fun p => ?_)
  · rw [L1, iZ_eq (by constructor <;> omega) (by decide)] at p
    exact And.intro trivial (good (fun q => q.2 (Or.inl p)))
  rw [L1, iZ_eq (by constructor <;> omega) (by decide)] at p
  refine And.intro trivial (M_of (i := i.toNat) (w := 10) ei rfl hS.dok h0.2.2.1 hn.2 (by decide) ?_)
  rw [e10]
  refine And.intro (fun r => ?_) (fun r => ?_)
  · rw [L8, iZ_eq (by constructor <;> omega) (by decide)] at r
    exact And.intro trivial (good (fun q => q.2 (Or.inr r)))
  rw [L8, iZ_eq (by constructor <;> omega) (by decide)] at r
  rw [if_pos ⟨o, by omega⟩] at hk
  exact And.intro trivial (hk m0 h0 G0)
end OPS3
