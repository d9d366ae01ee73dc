/-! THE MODEL's reader: a rest's line -/
def rowN (N : Nat) : Nat := if N = 48 then 1604 else 4 + 30 * N
theorem rowN_rng {N : Nat} (h : N ≤ 48) : rowN N + 30 ≤ 1634 ∧ 4 ≤ rowN N ∧ (rowN N = 4 + 30 * N ∧ rowN N + 30 ≤ 1444 ∨ 1604 ≤ rowN N) := by
  unfold rowN; split <;> omega
section MREST
variable {m : Mem} {K : Option SV → Mem → Prop} {tp : Nat → Int} {n ls q : Nat} {p : PS}
theorem MPC.fr {A : Nat → Nat → Nat → Prop} {m' : Mem} (h : MPC m p) (F : Fr A m m') (hA : ∀ t n k, t = 27 ∨ t = 28 ∨ t = 32 ∨ t = 33 → ¬ A t n k) (h23 : ∀ k, 19 ≤ k ∧ k ≤ 23 → ¬ A 23 231 k) (h30 : ∀ k, k = 0 ∨ k = 1 ∨ (4 ≤ k ∧ k < 4 + 30 * p.2.2.2.1) ∨ (1444 ≤ k ∧ k < 1444 + p.2.2.2.2.2.1) → ¬ A 30 238 k) : MPC m' p := by
  obtain ⟨hB, ⟨c23, c21, c20, c19⟩, hto, ⟨d0, d1⟩, dr, db⟩ := h
  refine ⟨hB.fr F (fun t n k z => hA t n k (by omega)) (h23 22 (by omega)), ⟨(F.2 _ _ _ (h23 23 (by omega))).trans c23, (F.2 _ _ _ (h23 21 (by omega))).trans c21, (F.2 _ _ _ (h23 20 (by omega))).trans c20, (F.2 _ _ _ (h23 19 (by omega))).trans c19⟩, fun z s hs => (F.2 _ _ _ (hA _ _ _ (by omega))).trans (hto z s hs), ⟨⟨(F.2 _ _ _ (h30 0 (by omega))).trans d0, (F.2 _ _ _ (h30 1 (by omega))).trans d1⟩, fun i w hi hw => (F.2 _ _ _ (h30 _ (by omega))).trans (dr i w hi hw), fun k hk => (F.2 _ _ _ (h30 _ (by omega))).trans (db k hk)⟩⟩
/-- what a line's reading may touch -/
def AML : Nat → Nat → Nat → Prop := fun t n k => (t = 23 ∧ n = 231 ∧ 11 ≤ k ∧ k ≤ 30) ∨ (t = 30 ∧ n = 238) ∨ (t = 33 ∧ n = 241)
theorem AWr_AML {t n k : Nat} (h : AWr t n k) : AML t n k := Or.inl ⟨h.1, h.2.1, by have := h.2.2; omega⟩
/-- a row becomes a note of the song -/
theorem MRD_add {m' : Mem} {D : Dt} {f : NF} {l : Int} (h : MRD m D) (hN : D.1 < 48) (hb : D.2.2.1 ≤ 115) (e0 : gI m' 30 238 0 = iZ ((D.1 : Int) + 1)) (hr : ∀ w, w < 30 → gI m' 30 238 (4 + 30 * D.1 + w) = iZ (mw w (f w))) (F : ∀ k, k = 1 ∨ (4 ≤ k ∧ k < 4 + 30 * D.1) ∨ (1444 ≤ k ∧ k < 1604) → gI m' 30 238 k = gI m 30 238 k) : MRD m' (addN D f l) := by
  obtain ⟨⟨d0, d1⟩, dr, db⟩ := h
  refine ⟨⟨e0, (F 1 (by omega)).trans d1⟩, fun i w hi hw => ?_, fun k hk => ?_⟩
  · have hi : i < D.1 + 1 := hi
    show gI m' 30 238 (4 + 30 * i + w) = iZ (mw w (upq D.2.1 D.1 f i w))
    by_cases e : i = D.1
    · subst e; rw [upq_s]; exact hr w hw
    · have : upq D.2.1 D.1 f i = D.2.1 i := by unfold upq; rw [if_neg e]
      rw [this, F _ (by omega)]; exact dr i w (by omega) hw
  · have hk : k < D.2.2.1 := hk
    rw [F _ (by omega)]; exact db k hk
end MREST
