/-! THE MODEL's reader: a row is added -/
section MLAST
variable {m : Mem} {K : Option SV → Mem → Prop} {tp : Nat → Int} {n ls : Nat} {p : PS} {g : Nat → Int32}
def lasG (g : Nat → Int32) (en l b k s : Int) : Nat → Int32 := fun w => if w = 4 then iZ (3 * en) else if w = 5 then iZ (3 * l) else if w = 6 then iZ b else if w = 8 then iZ k else if w = 9 then iZ s else g w
theorem M_lasts1 {x y : Int32} (h0 : MBad m) (h : K none m) : smC true 149 [vR (some (23, 231)), vI x, vI y] m K := by
  refine smC_wp [some (vR (some (23, 231))), some (vI x), some (vI y)] cd_149 [] 30 OK_149 (by decide) rfl rfl (Nat.le_of_ble_eq_true rfl) ?_
  refine And.intro (fun _ => ?_) (fun u => absurd u h0.ne)
  refine And.intro (fun u => absurd u h0.ne) (fun _ => ?_)
  exact And.intro trivial h
theorem lasG_up {en l b k s : Int} : ∀ w, w < 30 → upd (upd (upd (upd (upd g 4 (iZ (3 * en))) 5 (iZ (3 * l))) 6 (iZ b)) 8 (iZ k)) 9 (iZ s) w = lasG g en l b k s w := by
  intro w hw
  unfold lasG upd
  by_cases e9 : w = 9
  · subst e9; simp
  rw [if_neg e9]
  by_cases e8 : w = 8
  · subst e8; simp
  rw [if_neg e8]
  by_cases e6 : w = 6
  · subst e6; simp
  rw [if_neg e6]
  by_cases e5 : w = 5
  · subst e5; simp
  rw [if_neg e5]
  by_cases e4 : w = 4
  · subst e4; simp
  rw [if_neg e4, if_neg e4, if_neg e5, if_neg e6, if_neg e8, if_neg e9]
theorem M_lasts {r : Nat} {l : Int} {x y : Int32} {f : NF} (hx : x = iZ r) (hy : y = iZ (3 * l)) (hr : r + 30 ≤ 1634) (rl : 0 ≤ l ∧ l ≤ 20000) (hP : POK tp n p 815) (hb : 0 < p.2.2.2.2.2.1 ∧ p.2.2.2.2.2.1 ≤ 115) (h0 : MOk m) (hC : MPC m p) (e26 : gI m 23 231 26 = iZ ls) (hM : MRow m r g)
    (hF : ∀ m', (48 ≤ p.2.2.2.1 ∨ p.2.1.2.2.2 < p.2.2.2.2.2.2.2 + l) → MFt m' (3, ls) → Fr (fun t n k => t = 23 ∧ n = 231 ∧ (k = 12 ∨ k = 13)) m m' → K none m')
    (hS : ∀ m', ¬ (48 ≤ p.2.2.2.1 ∨ p.2.1.2.2.2 < p.2.2.2.2.2.2.2 + l) → MOk m' → MRow m' r (lasG g p.2.2.2.2.2.2.2 l ((p.2.2.2.2.2.1 : Int) - 1) p.2.1.1 p.2.1.2.1) → gI m' 23 231 19 = iZ (3 * (p.2.2.2.2.2.2.2 + l)) → gI m' 30 238 0 = iZ ((p.2.2.2.1 : Int) + 1) → Fr (fun t n k => (t = 23 ∧ n = 231 ∧ k = 19) ∨ (t = 30 ∧ n = 238 ∧ (k = 0 ∨ r ≤ k ∧ k < r + 30))) m m' → K none m') (hr0 : 4 ≤ r) : smC true 149 [vR (some (23, 231)), vI x, vI y] m K := by
  subst hx; subst hy
  obtain ⟨hB, ⟨c23, c21, c20, c19⟩, hto, ⟨d0, d1⟩, dr, db⟩ := id hC
  obtain ⟨ht, ⟨k1, k2, k3⟩, htd, s1, s2, s3, s4, s5, s6, s7, s8⟩ := hP
  have e0 : gI m 30 238 (0 : Int32).toNatClampNeg = iZ p.2.2.2.1 := d0
  have fail : (48 ≤ p.2.2.2.1 ∨ p.2.1.2.2.2 < p.2.2.2.2.2.2.2 + l) → smE true 149 31 [some (vR (some (23, 231))), some (vI (iZ r)), some (vI (iZ (3 * l)))] [] m K := by
    intro hc
    refine wp_ok (by decide) OK_149 (cc := cd_149) rfl (stops := []) 40 _ _ _ _ ?_
    refine And.intro trivial (M_fails (a := 3) (p := ls) rfl e26 h0 (fun m1 f1 F1 => ?_))
    refine And.intro (fun u => absurd u (bad_ne f1 (ek3 _))) (fun _ => ?_)
    exact And.intro trivial (hF m1 hc f1 F1)
  refine smC_wp [some (vR (some (23, 231))), some (vI (iZ r)), some (vI (iZ (3 * l)))] cd_149 [31, 40] 60 OK_149 (by decide) rfl rfl (Nat.le_of_ble_eq_true rfl) ?_
  refine And.intro (fun u => absurd h0.1 u) (fun _ => ?_)
  refine And.intro (by rw [L0, iZ_in (by decide)]; decide) ?_
  rw [e0]
  refine And.intro (fun u => ?_) (fun u => ?_)
  · rw [L48, iZ_eq (by constructor <;> omega) (by decide)] at u
    exact And.intro trivial (fail (Or.inl (by omega)))
  rw [L48, iZ_eq (by constructor <;> omega) (by decide)] at u
  refine And.intro (fun v => ?_) (fun v => ?_)
  rotate_left
  · rw [c19, c20, iZ_add, iZ_le (by constructor <;> omega) (by constructor <;> omega)] at v
    exact And.intro trivial (fail (Or.inr (by omega)))
  rw [c19, c20, iZ_add, iZ_le (by constructor <;> omega) (by constructor <;> omega)] at v
  refine And.intro trivial ?_
  refine wp1_ok (by decide) OK_149 (cc := cd_149) rfl (stops := []) (f := 90) ?_
  refine And.intro (fun _ => ?_) (fun w => absurd h0.1 w)
  refine And.intro trivial (M_takes (r := r) (w := 4) rfl rfl (by omega) ?_)
  refine And.intro trivial (M_takes (r := r) (w := 5) rfl rfl (by omega) ?_)
  refine And.intro (by rw [L1, iZ_in (by decide)]; decide) ?_
  refine And.intro trivial (M_takes (r := r) (w := 6) rfl rfl (by omega) ?_)
  refine And.intro trivial (M_takes (r := r) (w := 8) rfl rfl (by omega) ?_)
  refine And.intro trivial (M_takes (r := r) (w := 9) rfl rfl (by omega) ?_)
  refine And.intro (by rw [L0, iZ_in (by decide)]; decide) ?_
  refine And.intro (by rw [L0, iZ_in (by decide)]; decide) ?_
  refine And.intro trivial ?_
  have n4 : ¬ 1 = r + 4 := by omega
  have n5 : ¬ 1 = r + 5 := by omega
  have m4 : ¬ 0 = r + 4 := by omega
  have m5 : ¬ 0 = r + 5 := by omega
  have m6 : ¬ 0 = r + 6 := by omega
  have m8 : ¬ 0 = r + 8 := by omega
  have m9 : ¬ 0 = r + 9 := by omega
  have d1' : gI m 30 238 1 - 1 = iZ ((p.2.2.2.2.2.1 : Int) - 1) := by rw [d1, L1, iZ_sub]
  have d0' : gI m 30 238 0 + 1 = iZ ((p.2.2.2.1 : Int) + 1) := by rw [d0, L1, iZ_add]
  have a19 : gI m 23 231 19 + iZ (3 * l) = iZ (3 * (p.2.2.2.2.2.2.2 + l)) := by rw [c19, iZ_add]; congr 1; omega
  refine hS _ (by omega) ?_ (fun w hw => ?_) ?_ ?_ (((((((Fr.st (Or.inr ⟨rfl, rfl, Or.inr (by omega)⟩)).tr (Fr.st (Or.inr ⟨rfl, rfl, Or.inr (by omega)⟩))).tr (Fr.st (Or.inr ⟨rfl, rfl, Or.inr (by omega)⟩))).tr (Fr.st (Or.inr ⟨rfl, rfl, Or.inr (by omega)⟩))).tr (Fr.st (Or.inr ⟨rfl, rfl, Or.inr (by omega)⟩))).tr (Fr.st (Or.inl ⟨rfl, rfl, rfl⟩))).tr (Fr.st (Or.inr ⟨rfl, rfl, Or.inl rfl⟩)))
  · refine ⟨?_, ?_⟩
    · simp only [gI_s]; simp; exact h0.1
    · simp only [gI_s]; simp; exact h0.2
  · rw [gI_s, if_neg (by show ¬ (r + w = 0 ∧ _); omega), gI_s, if_neg (by omega)]
    refine ((((((hM.tk (w := 4) (by decide)).tk (w := 5) (by decide)).tk (w := 6) (by decide)).tk (w := 8) (by decide)).tk (w := 9) (by decide)) w hw).trans ?_
    rw [← lasG_up w hw]
    simp [gI_s, n4, n5, c19, d1', hB.2.2, c23]
  · simp only [gI_s]; simp; exact a19
  · simp [gI_s, m4, m5, m6, m8, m9, d0']
end MLAST
