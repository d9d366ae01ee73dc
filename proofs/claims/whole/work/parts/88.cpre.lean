/-! THE CLASS's reader: prefixes, bodies -/
def okG (x : Int × Int × Int) : Prop := tnOK x.1 x.2.1 x.2.2
theorem byN_near {s sg key : Int} (hs : -1 ≤ sg ∧ sg ≤ 2) : natN s - 1 ≤ byN s sg key ∧ byN s sg key ≤ natN s + 1 := by
  have := altN_rng key (s % 7)
  unfold byN; split <;> omega
section CPRE
variable {m : Mem} {K : Option SV → Mem → Prop} {tp : Nat → Int} {n nn : Nat} {t : TK} {key : Int} {told : Nat → Int}
theorem pPitch_g {told' : Nat → Int} {x : Int × Int × Int} {t' : TK} (hT : TPOK tp) (hn : n ≤ 800) (ht : TOK tp n t) (htd : TDOK told) (h : pPitch tp n key told t = .inr (x, told', t')) : okG x := by
  have o := pPitch_ok hT hn ht htd h
  have r := o.2.2.1 (7 * x.2.1 + x.1).toNat (by omega)
  have b := byN_near (s := 7 * x.2.1 + x.1) (key := key) r
  rw [← o.2.2.2.2.2.1] at b
  exact ⟨o.1, o.2.1, b⟩
theorem pGrs_ok (hT : TPOK tp) (hn : n ≤ 800) : ∀ (f k : Nat) (told : Nat → Int) (gs : Nat → Int × Int × Int) (t : TK), k + f = 4 → TOK tp n t → TDOK told → (∀ j, j < k → okG (gs j)) → ∀ k' gs' told' t', pGrs tp n key f k told gs t = .inr (k', gs', told', t') → (k ≤ k' ∧ k' ≤ 4 ∧ (1 ≤ f → k + 1 ≤ k')) ∧ (∀ j, j < k' → okG (gs' j)) ∧ TDOK told' ∧ TOK tp n t' ∧ t.2.1 ≤ t'.2.1 ∧ (∀ j, k' ≤ j → gs' j = gs j)
  | 0, k, told, gs, t, hk, ht, htd, hg, k', gs', told', t', h => by
    unfold pGrs at h
    cases h
    exact ⟨⟨by omega, by omega, fun z => by omega⟩, hg, htd, ht, by omega, fun j _ => rfl⟩
  | f + 1, k, told, gs, t, hk, ht, htd, hg, k', gs', told', t', h => by
    unfold pGrs at h
    cases h1 : pPitch tp n key told t with
    | inl e => rw [h1] at h; cases h
    | inr r =>
      obtain ⟨x, told1, t1⟩ := r
      have o := pPitch_ok hT hn ht htd h1
      have g := pPitch_g hT hn ht htd h1
      rw [h1] at h
      simp only at h
      have hg1 : ∀ j, j < k + 1 → okG (upq gs k x j) := by
        intro j hj
        unfold upq
        split
        · exact g
        · exact hg j (by omega)
      have hgo : ∀ j, k + 1 ≤ j → upq gs k x j = gs j := by
        intro j hj; unfold upq; rw [if_neg (by omega)]
      by_cases h2 : k + 1 < 4 ∧ 0 ≤ letT tp t1
      · rw [if_pos h2] at h
        have ih := pGrs_ok hT hn f (k + 1) told1 (upq gs k x) t1 (by omega) o.2.2.2.1 o.2.2.1 hg1 k' gs' told' t' h
        exact ⟨⟨by omega, by omega, fun _ => by omega⟩, ih.2.1, ih.2.2.1, ih.2.2.2.1, by omega, fun j hj => (ih.2.2.2.2.2 j hj).trans (hgo j (by omega))⟩
      · rw [if_neg h2] at h
        cases h
        exact ⟨⟨by omega, by omega, fun _ => by omega⟩, hg1, o.2.2.1, o.2.2.2.1, by omega, hgo⟩
def pitG (x : Int × Int × Int) : Int := pit x.2.2 (7 * x.2.1 + x.1)
def AG (nn : Nat) : Nat → Nat → Nat → Prop := fun t n k => AP t n k ∨ (t = 8 ∧ n = nn ∧ k = 7) ∨ (t = 9 ∧ n = nn + 1)
theorem AP_AG {t n k : Nat} (h : AP t n k) : AG nn t n k := Or.inl h
theorem nAG {t n k : Nat} (h : t = 2 ∨ (t = 1 ∧ (k = 2 ∨ k = 10 ∨ k = 11 ∨ k = 12 ∨ k = 13)) ∨ (t = 8 ∧ (k ≠ 7 ∨ n ≠ nn))) : ¬ AG nn t n k := by unfold AG AP AR; omega
theorem okG_tn {x : Int × Int × Int} (h : okG x) : (0 ≤ 7 * x.2.1 + x.1 ∧ 7 * x.2.1 + x.1 < 63) := by
  obtain ⟨h1, h2, h3⟩ := h; omega
def ngc (pf : Int) : Nat := if pf = 5 then 1 else if pf = 6 then 0 else pf.toNat
/-- the loop of the graces, from readPitch on -/
theorem pre_loop (hT : TPOK tp) (hn : n ≤ 800) (rk : -7 ≤ key ∧ key ≤ 7) {X : RE (Nat × (Nat → Int × Int × Int) × (Nat → Int) × TK)} {m0 : Mem}
    (hF : ∀ m' e, X = .inl e → FTd m' e → Fr (AG nn) m0 m' → K (some (vI 0)) m') (hS : ∀ m' k' gs' told' t', X = .inr (k', gs', told', t') → RS m' tp n t' → CTo m' told' → (∀ j, j < k' → gI m' 9 (nn + 1) j = iZ (pitG (gs' j))) → gI m' 8 nn 7 = iZ k' → Fr (AG nn) m0 m' → K (some (vI 1)) m') :
    ∀ (f k : Nat) (told : Nat → Int) (gs : Nat → Int × Int × Int) (t : TK) (m : Mem), k + (f + 1) = 4 → TOK tp n t → TDOK told → (∀ j, j < k → okG (gs j)) → RS m tp n t → CTo m told → gI m 1 1 10 = iZ key → (∀ j, j < k → gI m 9 (nn + 1) j = iZ (pitG (gs j))) → Fr (AG nn) m0 m → pGrs tp n key (f + 1) k told gs t = X →
      smE true 26 41 [some (vR (some (1, 1))), some (vR (some (8, nn))), some (vI 1), some (vI (iZ k))] [] m K := by
  intro f
  induction f with
  | zero =>
    intro k told gs t m hk ht htd hg hR hto e10 hgm F0 hX
    have hk3 : k = 3 := by omega
    unfold pGrs at hX
    refine wp1_ok (by decide) OK_26 (cc := cd_26) rfl (stops := [41]) (f := 60) ?_
    refine And.intro trivial (c_readPitch rk e10 htd hto hT hn ht hR (fun m1 e h1 f1 F1 => ?_) (fun m1 x told1 t1 h1 R1 T1 e8 F1 => ?_))
    · refine And.intro (fun z => absurd rfl z) (fun _ => ?_)
      exact And.intro (Or.inl rfl) (hF m1 e (by rw [← hX, h1]) f1 (F0.tr (F1.mono (fun t n k z => AP_AG z))))
    rw [h1] at hX
    simp only at hX
    rw [if_neg (by omega)] at hX
    refine And.intro (fun _ => ?_) (fun z => absurd z (by decide))
    refine And.intro ((iZ_in (by constructor <;> omega)).mpr (by omega)) ?_
    refine And.intro (fun z => absurd z (by decide)) (fun _ => ?_)
    refine And.intro (fun _ => ?_) (fun z => ?_)
    rotate_left
    · rw [L1, L4, iZ_add, iZ_le (by decide) (by constructor <;> omega)] at z; omega
    refine And.intro (fun z => absurd z (by decide)) (fun _ => ?_)
    refine And.intro (Or.inr rfl) ?_
    rw [e8, iZ_clamp (by constructor <;> omega), show ((k : Nat) : Int).toNat = k by omega, L1, iZ_add]
    have G : Fr (AG nn) m1 (sI (sI m1 9 (nn + 1) k (iZ (pit x.2.2 (7 * x.2.1 + x.1)))) 8 nn 7 (iZ ((k : Int) + 1))) := (Fr.st (Or.inr (Or.inr ⟨rfl, rfl⟩))).tr (Fr.st (Or.inr (Or.inl ⟨rfl, rfl, rfl⟩)))
    have G2 : Fr (fun t n k => t = 9 ∨ t = 8) m1 (sI (sI m1 9 (nn + 1) k (iZ (pit x.2.2 (7 * x.2.1 + x.1)))) 8 nn 7 (iZ ((k : Int) + 1))) := (Fr.st (Or.inl rfl)).tr (Fr.st (Or.inr rfl))
    refine hS _ _ _ _ _ hX.symm (R1.fr G2 (fun n k => by omega) (fun k hk => by omega)) (fun j hj => (G2.2 _ _ _ (by omega)).trans (T1 j hj)) (fun j hj => ?_) ?_ ((F0.tr (F1.mono (fun t n k z => AP_AG z))).tr G)
    · rw [gI_s, if_neg (by omega), gI_s]
      unfold upq
      by_cases e : j = k
      · rw [if_pos ⟨e, rfl, rfl⟩, if_pos e]; rfl
      · rw [if_neg (by omega), if_neg e, F1.2 9 _ _ (by unfold AP AR; omega)]; exact hgm j (by omega)
    · rw [gI_s, if_pos ⟨rfl, rfl, rfl⟩]; congr 1
  | succ f ih =>
    intro k told gs t m hk ht htd hg hR hto e10 hgm F0 hX
    unfold pGrs at hX
    refine wp1_ok (by decide) OK_26 (cc := cd_26) rfl (stops := [41, 72, 79]) (f := 60) ?_
    refine And.intro trivial (c_readPitch rk e10 htd hto hT hn ht hR (fun m1 e h1 f1 F1 => ?_) (fun m1 x told1 t1 h1 R1 T1 e8 F1 => ?_))
    · refine And.intro (fun z => absurd rfl z) (fun _ => ?_)
      exact And.intro (Or.inl rfl) (hF m1 e (by rw [← hX, h1]) f1 (F0.tr (F1.mono (fun t n k z => AP_AG z))))
    have o := pPitch_ok hT hn ht htd h1
    have g := pPitch_g hT hn ht htd h1
    rw [h1] at hX
    simp only at hX
    refine And.intro (fun _ => ?_) (fun z => absurd z (by decide))
    refine And.intro ((iZ_in (by constructor <;> omega)).mpr (by omega)) ?_
    refine And.intro (fun z => absurd z (by decide)) (fun _ => ?_)
    refine And.intro (fun z => ?_) (fun _ => ?_)
    · rw [L1, L4, iZ_add, iZ_le (by decide) (by constructor <;> omega)] at z; omega
    refine And.intro trivial ?_
    rw [e8, iZ_clamp (by constructor <;> omega), show ((k : Nat) : Int).toNat = k by omega, L1, iZ_add]
    have F2 : Fr (AG nn) m0 (sI m1 9 (nn + 1) k (iZ (pit x.2.2 (7 * x.2.1 + x.1)))) := (F0.tr (F1.mono (fun t n k z => AP_AG z))).tr (Fr.st (Or.inr (Or.inr ⟨rfl, rfl⟩)))
    have G2 : Fr (fun t n k => t = 9) m1 (sI m1 9 (nn + 1) k (iZ (pit x.2.2 (7 * x.2.1 + x.1)))) := Fr.st rfl
    have R2 : RS (sI m1 9 (nn + 1) k (iZ (pit x.2.2 (7 * x.2.1 + x.1)))) tp n t1 := R1.fr G2 (fun n k => by omega) (fun k hk => by omega)
    have T2 : CTo (sI m1 9 (nn + 1) k (iZ (pit x.2.2 (7 * x.2.1 + x.1)))) told1 := fun j hj => (G2.2 _ _ _ (by omega)).trans (T1 j hj)
    have g2 : ∀ j, j < k + 1 → gI (sI m1 9 (nn + 1) k (iZ (pit x.2.2 (7 * x.2.1 + x.1)))) 9 (nn + 1) j = iZ (pitG (upq gs k x j)) := by
      intro j hj
      rw [gI_s]
      unfold upq
      by_cases e : j = k
      · rw [if_pos ⟨e, rfl, rfl⟩, if_pos e]; rfl
      · rw [if_neg (by omega), if_neg e, F1.2 9 _ _ (by unfold AP AR; omega)]; exact hgm j (by omega)
    have q10 : gI (sI m1 9 (nn + 1) k (iZ (pit x.2.2 (7 * x.2.1 + x.1)))) 1 1 10 = iZ key := by
      rw [gI_s, if_neg (by omega), F1.2 1 1 10 (by unfold AP AR; omega)]; exact e10
    generalize sI m1 9 (nn + 1) k (iZ (pit x.2.2 (7 * x.2.1 + x.1))) = m2 at *
    have hl := letT_rng tp t1
    refine wp1_ok (by decide) OK_26 (cc := cd_26) rfl (stops := [41, 79]) (f := 60) ?_
    refine And.intro trivial (c_letterHere hT hn o.2.2.2.1 R2 ?_)
    refine And.intro (fun z => ?_) (fun z => ?_)
    · rw [L0, iZ_le (by decide) (by constructor <;> omega)] at z
      rw [if_pos ⟨by omega, z⟩] at hX
      refine And.intro trivial ?_
      exact ih (k + 1) told1 (upq gs k x) t1 m2 (by omega) o.2.2.2.1 o.2.2.1 (fun j hj => by
        unfold upq; split
        · exact g
        · exact hg j (by omega)) R2 T2 q10 g2 F2 hX
    · rw [L0, iZ_le (by decide) (by constructor <;> omega)] at z
      rw [if_neg (by omega)] at hX
      refine And.intro trivial ?_
      refine wp1_ok (by decide) OK_26 (cc := cd_26) rfl (stops := []) (f := 60) ?_
      refine And.intro (fun w => absurd w (by decide)) (fun _ => ?_)
      refine And.intro (Or.inr rfl) ?_
      have G3 : Fr (fun t n k => t = 8) m2 (sI m2 8 nn 7 (iZ ((k : Int) + 1))) := Fr.st rfl
      refine hS _ _ _ _ _ hX.symm (R2.fr G3 (fun n k => by omega) (fun k hk => by omega)) (fun j hj => (G3.2 _ _ _ (by omega)).trans (T2 j hj)) (fun j hj => (G3.2 _ _ _ (by omega)).trans (g2 j hj)) ?_ (F2.tr (Fr.st (Or.inr (Or.inl ⟨rfl, rfl, rfl⟩))))
      rw [gI_s, if_pos ⟨rfl, rfl, rfl⟩]; congr 1
end CPRE
