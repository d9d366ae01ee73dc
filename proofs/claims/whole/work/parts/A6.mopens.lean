/-! THE MODEL's reader: bars -/
/-- what lies in `read` -/
def MRD (m : Mem) (D : Dt) : Prop :=
  (gI m 30 238 0 = iZ D.1 ∧ gI m 30 238 1 = iZ D.2.2.1) ∧ (∀ i w, i < D.1 → w < 30 → gI m 30 238 (4 + 30 * i + w) = iZ (mw w (D.2.1 i w))) ∧ ∀ k, k < D.2.2.1 → gI m 30 238 (1444 + k) = iZ (3 * D.2.2.2.1 k)
/-- the Model's reader between tokens: all but token and isBehindNote -/
def MPC (m : Mem) (p : PS) : Prop :=
  MRB m p.2.1.1 ∧ (gI m 23 231 23 = iZ p.2.1.2.1 ∧ gI m 23 231 21 = iZ (3 * p.2.1.2.2.1) ∧ gI m 23 231 20 = iZ (3 * p.2.1.2.2.2) ∧ gI m 23 231 19 = iZ (3 * p.2.2.2.2.2.2.2)) ∧ (0 < p.2.2.2.2.2.1 → MTo m p.2.2.1) ∧ MRD m p.2.2.2
section MOPEN
variable {m : Mem} {K : Option SV → Mem → Prop} {tp : Nat → Int} {n r : Nat} {p : PS} {told : Nat → Int}
theorem M_heldAt {s : Int} {x y : Int32} (hx : x = iZ (s % 7)) (hy : y = iZ (s / 7)) (rs : -7 ≤ s ∧ s < 70) (hto : MTo m told) (h : K (some (vI (iZ (tldN told s)))) m) : smC true 157 [vR (some (23, 231)), vI x, vI y] m K := by
  subst hx; subst hy
  unfold tldN at h
  refine smC_wp [some (vR (some (23, 231))), some (vI (iZ (s % 7))), some (vI (iZ (s / 7)))] cd_157 [] 30 OK_157 (by decide) rfl rfl (Nat.le_of_ble_eq_true rfl) ?_
  refine And.intro trivial (M_in (v := s / 7) (lo := 0) (hi := 8) rfl (by constructor <;> omega) (by decide) (by decide) rfl rfl (fun w => ?_) (fun w => ?_))
  · rw [if_pos (by omega)] at h
    refine And.intro (fun u => absurd u (by decide)) (fun _ => ?_)
    have ei : (9 : Int32) * iZ (s % 7) + iZ (s / 7) = iZ ((tix s.toNat : Nat) : Int) := by
      rw [L9, iZ_mul, iZ_add]; congr 1; unfold tix; omega
    have hti := tix_in (s := s.toNat) (by omega)
    refine And.intro (by rw [ei]; exact (iZ_in (by constructor <;> omega)).mpr (by omega)) ?_
    refine And.intro trivial ?_
    rw [ei, iZ_clamp (by constructor <;> omega), show ((tix s.toNat : Nat) : Int).toNat = tix s.toNat by omega, hto _ (by omega)]
    exact h
  · rw [if_neg (by omega)] at h
    refine And.intro (fun _ => ?_) (fun u => absurd rfl u)
    exact And.intro trivial h
def AOp (b : Nat) : Nat → Nat → Nat → Prop := fun t n k => (t = 23 ∧ n = 231 ∧ k = 20) ∨ (t = 30 ∧ n = 238 ∧ (k = 1 ∨ k = 1444 + b)) ∨ (t = 33 ∧ n = 241)
theorem M_opens1 (h0 : MBad m) (h : K none m) : smC true 147 [vR (some (23, 231))] m K := by
  refine smC_wp [some (vR (some (23, 231))), none] cd_147 [] 30 OK_147 (by decide) rfl rfl (Nat.le_of_ble_eq_true rfl) ?_
  refine And.intro (fun _ => ?_) (fun u => absurd u h0.ne)
  exact And.intro trivial h
theorem M_opens (h0 : MOk m) (hP : POK tp n p 800) (hC : MPC m p) (h : ∀ m', MPC m' (openB p) → Fr (AOp p.2.2.2.2.2.1) m m' → K none m') : smC true 147 [vR (some (23, 231))] m K := by
  obtain ⟨hB, ⟨c23, c21, c20, c19⟩, hto, ⟨d0, d1⟩, dr, db⟩ := id hC
  obtain ⟨ht, ⟨k1, k2, k3⟩, htd, s1, s2, s3, s4, s5, s6, s7, s8⟩ := hP
  unfold openB at h
  refine smC_wp [some (vR (some (23, 231))), none] cd_147 [38, 63] 60 OK_147 (by decide) rfl rfl (Nat.le_of_ble_eq_true rfl) ?_
  refine And.intro (fun u => absurd h0.1 u) (fun _ => ?_)
  refine And.intro (fun u => ?_) (fun u => ?_)
  rotate_left
  · rw [c19, c20, iZ_le (by constructor <;> omega) (by constructor <;> omega)] at u
    rw [if_neg (by omega)] at h
    exact And.intro trivial (h m hC (Fr.rf _ _))
  rw [c19, c20, iZ_le (by constructor <;> omega) (by constructor <;> omega)] at u
  rw [if_pos (by omega)] at h
  have e1 : gI m 30 238 (1 : Int32).toNatClampNeg = iZ p.2.2.2.2.2.1 := d1
  refine And.intro (by rw [L1, iZ_in (by decide)]; decide) ?_
  have ea : (1444 : Int32) + gI m 30 238 (1 : Int32).toNatClampNeg = iZ ((1444 + p.2.2.2.2.2.1 : Nat) : Int) := by rw [e1, L1444, iZ_add]; congr 1
  refine And.intro (by rw [ea]; exact (iZ_in (by constructor <;> omega)).mpr (by omega)) ?_
  refine And.intro trivial ?_
  rw [ea, iZ_clamp (by constructor <;> omega), show ((1444 + p.2.2.2.2.2.1 : Nat) : Int).toNat = 1444 + p.2.2.2.2.2.1 by omega, c19]
  have F1 : Fr (fun t n k => t = 30 ∧ n = 238 ∧ k = 1444 + p.2.2.2.2.2.1) m (sI m 30 238 (1444 + p.2.2.2.2.2.1) (iZ (3 * p.2.2.2.2.2.2.2))) := Fr.st ⟨rfl, rfl, rfl⟩
  have v1 : gI (sI m 30 238 (1444 + p.2.2.2.2.2.1) (iZ (3 * p.2.2.2.2.2.2.2))) 30 238 (1444 + p.2.2.2.2.2.1) = iZ (3 * p.2.2.2.2.2.2.2) := by rw [gI_s, if_pos ⟨rfl, rfl, rfl⟩]
  generalize sI m 30 238 (1444 + p.2.2.2.2.2.1) (iZ (3 * p.2.2.2.2.2.2.2)) = ma at *
  refine wp1_ok (by decide) OK_147 (cc := cd_147) rfl (stops := [48, 63]) (f := 60) ?_
  refine And.intro (by rw [L1, iZ_in (by decide)]; decide) ?_
  refine And.intro (by rw [L1, iZ_in (by decide)]; decide) ?_
  refine And.intro trivial ?_
  have ed1 : gI ma 30 238 (1 : Int32).toNatClampNeg + 1 = iZ ((p.2.2.2.2.2.1 + 1 : Nat) : Int) := by
    rw [F1.2 30 238 _ (by show ¬ (30 = 30 ∧ 238 = 238 ∧ 1 = _); omega), e1, L1, iZ_add]; congr 1
  rw [ed1]
  have F2 : Fr (fun t n k => t = 30 ∧ n = 238 ∧ k = 1) ma (sI ma 30 238 (1 : Int32).toNatClampNeg (iZ ((p.2.2.2.2.2.1 + 1 : Nat) : Int))) := Fr.st ⟨rfl, rfl, rfl⟩
  have v2 : gI (sI ma 30 238 (1 : Int32).toNatClampNeg (iZ ((p.2.2.2.2.2.1 + 1 : Nat) : Int))) 30 238 1 = iZ ((p.2.2.2.2.2.1 + 1 : Nat) : Int) := by rw [gI_s, if_pos ⟨rfl, rfl, rfl⟩]
  generalize sI ma 30 238 (1 : Int32).toNatClampNeg (iZ ((p.2.2.2.2.2.1 + 1 : Nat) : Int)) = mb at *
  have F12 : Fr (AOp p.2.2.2.2.2.1) m mb := (F1.mono (fun t n k z => Or.inr (Or.inl ⟨z.1, z.2.1, Or.inr z.2.2⟩))).tr (F2.mono (fun t n k z => Or.inr (Or.inl ⟨z.1, z.2.1, Or.inl z.2.2⟩)))
  have k23 : ∀ k, gI mb 23 231 k = gI m 23 231 k := fun k => (F2.2 _ _ _ (by omega)).trans (F1.2 _ _ _ (by omega))
  refine wp1_ok (by decide) OK_147 (cc := cd_147) rfl (stops := [63]) (f := 60) ?_
  refine And.intro trivial ?_
  rw [k23 19, k23 21, c19, c21, iZ_add]
  have F3 : Fr (fun t n k => t = 23 ∧ n = 231 ∧ k = 20) mb (sI mb 23 231 20 (iZ (3 * p.2.2.2.2.2.2.2 + 3 * p.2.1.2.2.1))) := Fr.st ⟨rfl, rfl, rfl⟩
  have v3 : gI (sI mb 23 231 20 (iZ (3 * p.2.2.2.2.2.2.2 + 3 * p.2.1.2.2.1))) 23 231 20 = iZ (3 * (p.2.1.2.2.2 + p.2.1.2.2.1)) := by rw [gI_s, if_pos ⟨rfl, rfl, rfl⟩]; congr 1; omega
  generalize sI mb 23 231 20 (iZ (3 * p.2.2.2.2.2.2.2 + 3 * p.2.1.2.2.1)) = mc at *
  have F13 : Fr (AOp p.2.2.2.2.2.1) m mc := F12.tr (F3.mono (fun t n k z => Or.inl z))
  have loop : ∀ (q j : Nat) (mz : Mem), j + q = 63 → (∀ k, k < j → gI mz 33 241 k = iZ 2) → Fr (fun t n _ => t = 33 ∧ n = 241) mc mz → smE true 147 63 [some (vR (some (23, 231))), some (vI (iZ j))] [] mz K := by
    intro q
    induction q with
    | zero =>
      intro j mz ej hj F4
      have ej : j = 63 := by omega
      subst ej
      refine wp1_ok (by decide) OK_147 (cc := cd_147) rfl (stops := [63]) (f := 30) ?_
      refine And.intro (fun _ => ?_) (fun z => absurd (by decide) z)
      have FA : Fr (AOp p.2.2.2.2.2.1) m mz := F13.tr (F4.mono (fun t n k z => Or.inr (Or.inr z)))
      have g23 : ∀ k, k ≠ 20 → gI mz 23 231 k = gI m 23 231 k := fun k hk => FA.2 _ _ _ (by unfold AOp; omega)
      have g30 : ∀ k, gI mz 30 238 k = gI mb 30 238 k := fun k => (F4.2 _ _ _ (by omega)).trans (F3.2 _ _ _ (by omega))
      refine And.intro trivial (h mz ⟨hB.fr FA (fun t n k z => by unfold AOp; omega) (by unfold AOp; omega), ⟨(g23 23 (by decide)).trans c23, (g23 21 (by decide)).trans c21, (F4.2 _ _ _ (by omega)).trans v3, (g23 19 (by decide)).trans c19⟩, fun _ s hs => hj _ (tix_in hs), ⟨⟨(FA.2 _ _ _ (by unfold AOp; omega)).trans d0, (g30 1).trans v2⟩, fun i w hi hw => (FA.2 _ _ _ (by have hi : i < p.2.2.2.1 := hi; unfold AOp; omega)).trans (dr i w hi hw), fun k hk => ?_⟩⟩ FA)
      have hk : k < p.2.2.2.2.2.1 + 1 := hk
      show gI mz 30 238 (1444 + k) = iZ (3 * upq p.2.2.2.2.2.2.1 p.2.2.2.2.2.1 p.2.2.2.2.2.2.2 k)
      rw [g30]
      unfold upq
      by_cases e : k = p.2.2.2.2.2.1
      · rw [if_pos e, e, F2.2 _ _ _ (by omega)]; exact v1
      · rw [if_neg e, F2.2 _ _ _ (by omega), F1.2 _ _ _ (by omega)]; exact db k (by omega)
    | succ q ih =>
      intro j mz ej hj F4
      refine wp1_ok (by decide) OK_147 (cc := cd_147) rfl (stops := [63]) (f := 30) ?_
      refine And.intro (fun z => ?_) (fun _ => ?_)
      · rw [L63, iZ_le (by decide) (by constructor <;> omega)] at z; omega
      refine And.intro ((iZ_in (by constructor <;> omega)).mpr (by omega)) ?_
      refine And.intro trivial ?_
      rw [iZ_clamp (by constructor <;> omega), show ((j : Nat) : Int).toNat = j by omega, L1, iZ_add]
      refine ih (j + 1) _ (by omega) (fun k hk => ?_) (F4.tr (Fr.st ⟨rfl, rfl⟩))
      rw [gI_s]
      by_cases e : k = j
      · rw [if_pos ⟨e, rfl, rfl⟩]; rfl
      · rw [if_neg (by omega)]; exact hj k (by omega)
  exact loop 63 0 mc (by omega) (fun k hk => by omega) (Fr.rf _ _)
end MOPEN
