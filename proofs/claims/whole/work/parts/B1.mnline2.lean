/-! THE MODEL's reader: a note's line -/
theorem all30 {P : Nat → Prop} (h : P 0 ∧ P 1 ∧ P 2 ∧ P 3 ∧ P 4 ∧ P 5 ∧ P 6 ∧ P 7 ∧ P 8 ∧ P 9 ∧ P 10 ∧ P 11 ∧ P 12 ∧ P 13 ∧ P 14 ∧ P 15 ∧ P 16 ∧ P 17 ∧ P 18 ∧ P 19 ∧ P 20 ∧ P 21 ∧ P 22 ∧ P 23 ∧ P 24 ∧ P 25 ∧ P 26 ∧ P 27 ∧ P 28 ∧ P 29) : ∀ w, w < 30 → P w := by
  intro w hw
  have hc : w = 0 ∨ w = 1 ∨ w = 2 ∨ w = 3 ∨ w = 4 ∨ w = 5 ∨ w = 6 ∨ w = 7 ∨ w = 8 ∨ w = 9 ∨ w = 10 ∨ w = 11 ∨ w = 12 ∨ w = 13 ∨ w = 14 ∨ w = 15 ∨ w = 16 ∨ w = 17 ∨ w = 18 ∨ w = 19 ∨ w = 20 ∨ w = 21 ∨ w = 22 ∨ w = 23 ∨ w = 24 ∨ w = 25 ∨ w = 26 ∨ w = 27 ∨ w = 28 ∨ w = 29 := by omega
  rcases hc with rfl | rfl | rfl | rfl | rfl | rfl | rfl | rfl | rfl | rfl | rfl | rfl | rfl | rfl | rfl | rfl | rfl | rfl | rfl | rfl | rfl | rfl | rfl | rfl | rfl | rfl | rfl | rfl | rfl | rfl <;> simp only [h]
theorem MRow.eq {m : Mem} {r : Nat} {g g' : Nat → Int32} (h : MRow m r g) (e : ∀ w, w < 30 → g w = g' w) : MRow m r g' := fun w hw => (h w hw).trans (e w hw)
def ARw (r : Nat) : Nat → Nat → Nat → Prop := fun t n k => t = 30 ∧ n = 238 ∧ r ≤ k ∧ k < r + 30
/-- the row of a note: what its line tells first -/
def nG (a b c u d l : Int) : Nat → Int32 := fun w => if w = 0 then 1 else if w = 1 then iZ a else if w = 2 then iZ b else if w = 3 then iZ c else if w = 13 ∨ w = 14 then 2 else if w = 15 then iZ u else if w = 16 then iZ d else if w = 17 then iZ l else 0
theorem nG_up {a b c u d l : Int} : ∀ w, w < 30 → upd (upd (upd (upd (upd (upd (upd (upd (upd (fun _ => 0) 13 2) 14 2) 0 1) 1 (iZ a)) 2 (iZ b)) 3 (iZ c)) 15 (iZ u)) 16 (iZ d)) 17 (iZ l) w = nG a b c u d l w := all30 ⟨rfl, rfl, rfl, rfl, rfl, rfl, rfl, rfl, rfl, rfl, rfl, rfl, rfl, rfl, rfl, rfl, rfl, rfl, rfl, rfl, rfl, rfl, rfl, rfl, rfl, rfl, rfl, rfl, rfl, rfl⟩
theorem nG_pre {a b c u d l : Int} : ∀ w, w < 30 → nG a b c u d l w = preG (nG a b c u d l) 0 g0 w := all30 ⟨rfl, rfl, rfl, rfl, rfl, rfl, rfl, rfl, rfl, rfl, rfl, rfl, rfl, rfl, rfl, rfl, rfl, rfl, rfl, rfl, rfl, rfl, rfl, rfl, rfl, rfl, rfl, rfl, rfl, rfl⟩
theorem nG_bod {a b c u d l pf : Int} {gs : Nat → Int × Int × Int} : ∀ w, w < 30 → preG (nG a b c u d l) pf gs w = bodG (preG (nG a b c u d l) pf gs) 0 2 2 w := all30 ⟨rfl, rfl, rfl, rfl, rfl, rfl, rfl, rfl, rfl, rfl, rfl, rfl, rfl, rfl, rfl, rfl, rfl, rfl, rfl, rfl, rfl, rfl, rfl, rfl, rfl, rfl, rfl, rfl, rfl, rfl⟩
def behG (g : Nat → Int32) (v : Int) : Nat → Int32 := fun w => if w = 12 then iZ v else g w
theorem beh_0 {a b c u d l pf bd x y : Int} {gs : Nat → Int × Int × Int} : ∀ w, w < 30 → bodG (preG (nG a b c u d l) pf gs) bd x y w = behG (bodG (preG (nG a b c u d l) pf gs) bd x y) 0 w := all30 ⟨rfl, rfl, rfl, rfl, rfl, rfl, rfl, rfl, rfl, rfl, rfl, rfl, rfl, rfl, rfl, rfl, rfl, rfl, rfl, rfl, rfl, rfl, rfl, rfl, rfl, rfl, rfl, rfl, rfl, rfl⟩
theorem beh_up {g : Nat → Int32} {v : Int} : ∀ w, w < 30 → upd g 12 (iZ v) w = behG g v w := all30 ⟨rfl, rfl, rfl, rfl, rfl, rfl, rfl, rfl, rfl, rfl, rfl, rfl, rfl, rfl, rfl, rfl, rfl, rfl, rfl, rfl, rfl, rfl, rfl, rfl, rfl, rfl, rfl, rfl, rfl, rfl⟩
theorem note_row {a b c u d lo pf bd x y bh en l br k s : Int} {gs : Nat → Int × Int × Int} : ∀ w, w < 30 → lasG (behG (bodG (preG (nG a b c u d lo) pf gs) bd x y) bh) en l br k s w = iZ (mw w (mkF [1, a, b, c, en, l, br, 0, k, s, bd, pf, bh, x, y, u, d, lo] gs w)) := all30 ⟨rfl, rfl, rfl, rfl, rfl, rfl, rfl, rfl, rfl, rfl, rfl, rfl, rfl, rfl, rfl, rfl, rfl, rfl, rfl, rfl, rfl, rfl, rfl, rfl, rfl, rfl, rfl, rfl, rfl, rfl⟩
section MNL
variable {m : Mem} {K : Option SV → Mem → Prop} {tp : Nat → Int} {n ls q r : Nat} {p : PS} {g : Nat → Int32}
theorem M_tk {w : Nat} {x y v v' : Int32} (hx : x = iZ r) (hy : y = iZ w) (hw : w < 30) (hr : r + 30 ≤ 1634) (hv : v = v') (hM : MRow m r g) (h : ∀ m', MRow m' r (upd g w v') → Fr (ARw r) m m' → K none m') : smC true 150 [vR (some (23, 231)), vI x, vI y, vI v] m K := by
  subst hv
  exact M_takes hx hy (by omega) (h _ (hM.tk hw) (Fr.st ⟨rfl, rfl, by omega, by omega⟩))
theorem MPC.to {A : Nat → Nat → Nat → Prop} {m' : Mem} {told' : Nat → Int} {t' : TK} (h : MPC m p) (F : Fr A m m') (hA : ∀ t n k, t = 27 ∨ t = 28 ∨ t = 32 → ¬ A t n k) (h23 : ∀ k, 19 ≤ k ∧ k ≤ 23 → ¬ A 23 231 k) (h30 : ∀ k, k = 0 ∨ k = 1 ∨ (4 ≤ k ∧ k < 4 + 30 * p.2.2.2.1) ∨ (1444 ≤ k ∧ k < 1444 + p.2.2.2.2.2.1) → ¬ A 30 238 k) (hto : MTo m' told') : MPC m' (t', p.2.1, told', p.2.2.2) := by
  obtain ⟨hB, ⟨c23, c21, c20, c19⟩, _, ⟨d0, d1⟩, dr, db⟩ := h
  refine ⟨hB.fr F (fun t n k z => hA t n k (by omega)) (h23 22 (by omega)), ⟨(F.2 _ _ _ (h23 23 (by omega))).trans c23, (F.2 _ _ _ (h23 21 (by omega))).trans c21, (F.2 _ _ _ (h23 20 (by omega))).trans c20, (F.2 _ _ _ (h23 19 (by omega))).trans c19⟩, fun _ => hto, ⟨⟨(F.2 _ _ _ (h30 0 (by omega))).trans d0, (F.2 _ _ _ (h30 1 (by omega))).trans d1⟩, fun i w hi hw => (F.2 _ _ _ (h30 _ (by have hi : i < p.2.2.2.1 := hi; omega))).trans (dr i w hi hw), fun k hk => (F.2 _ _ _ (h30 _ (by have hk : k < p.2.2.2.2.2.1 := hk; omega))).trans (db k hk)⟩⟩
theorem MRS.tk {t t' : TK} (h : MRS m tp n t) (e : t = t') : MRS m tp n t' := e ▸ h
/-- the end: the row becomes a note -/
theorem nk_360 {l : Int} {x2 x3 : Int32} {f : NF} (hx2 : x2 = iZ (3 * l)) (er : r = rowN p.2.2.2.1) (rl : 0 ≤ l ∧ l ≤ 20000) (hP : POK tp n p 815) (hb : 0 < p.2.2.2.2.2.1 ∧ p.2.2.2.2.2.1 ≤ 115) (h0 : MOk m) (hR : MRS m tp n p.1) (hC : MPC m p) (e26 : gI m 23 231 26 = iZ ls) (hM : MRow m r g)
    (hf : ∀ w, w < 30 → lasG g p.2.2.2.2.2.2.2 l ((p.2.2.2.2.2.1 : Int) - 1) p.2.1.1 p.2.1.2.1 w = iZ (mw w (f w)))
    (hF : ∀ m', (48 ≤ p.2.2.2.1 ∨ p.2.1.2.2.2 < p.2.2.2.2.2.2.2 + l) → MFt m' (3, ls) → Fr AML m m' → K none m')
    (hS : ∀ m', ¬ (48 ≤ p.2.2.2.1 ∨ p.2.1.2.2.2 < p.2.2.2.2.2.2.2 + l) → MRS m' tp n p.1 → MOk m' → MPC m' (p.1, p.2.1, p.2.2.1, addN p.2.2.2 f l) → gI m' 23 231 24 = 1 → Fr AML m m' → K none m') : smE true 151 360 [some (vR (some (23, 231))), some (vI (iZ r)), some (vI x2), some (vI x3)] [] m K := by
  have s1 := hP.2.2.2.1
  have rr := rowN_rng s1
  rw [← er] at rr
  subst hx2
  refine wp_ok (by decide) OK_151 (cc := cd_151) rfl (stops := [366]) 30 _ _ _ _ ?_
  have last : ∀ (mz : Mem), (∀ mw, Fr (fun t n k => t = 23 ∧ n = 231 ∧ k = 24) mz mw → gI mw 23 231 24 = 1 → K none mw) → smE true 151 366 [some (vR (some (23, 231))), some (vI (iZ r)), some (vI (iZ (3 * l))), some (vI x3)] [] mz K := by
    intro mz hk
    refine wp_ok (by decide) OK_151 (cc := cd_151) rfl (stops := []) 20 _ _ _ _ ?_
    refine And.intro (Or.inr rfl) ?_
    exact And.intro trivial (hk _ (Fr.st ⟨rfl, rfl, rfl⟩) (by rw [gI_s, if_pos ⟨rfl, rfl, rfl⟩]))
  refine And.intro trivial (M_lasts (tp := tp) (n := n) (p := p) (ls := ls) (r := r) (l := l) (f := fun _ => 0) rfl rfl rr.1 rl hP hb h0 hC e26 hM (fun m4 hc f4 F4 => ?_) (fun m4 hc o4 W4 y19 y0 F4 => ?_) rr.2.1)
  · refine And.intro trivial (last m4 (fun mw Fw _ => hF mw hc ⟨(Fw.2 _ _ _ (by omega)).trans f4.1, (Fw.2 _ _ _ (by omega)).trans f4.2⟩ ((F4.mono (fun t n k z => Or.inl ⟨z.1, z.2.1, by omega⟩)).tr (Fw.mono (fun t n k z => Or.inl ⟨z.1, z.2.1, by omega⟩)))))
  have hN48 : p.2.2.2.1 < 48 := by omega
  have er' : r = 4 + 30 * p.2.2.2.1 := by rw [er]; unfold rowN; rw [if_neg (by omega)]
  refine And.intro trivial (last m4 (fun mw Fw z24 => hS mw hc ?_ ?_ ⟨?_, ⟨?_, ?_, ?_, ?_⟩, ?_, ?_⟩ z24 ?_))
  · exact (hR.fr F4 (fun n k => by omega) (fun k hk => by omega)).fr Fw (fun n k => by omega) (fun k hk => by omega)
  · exact (MOk.fr o4 Fw (by omega) (by omega))
  · exact (hC.1.fr F4 (fun t n k z => by omega) (by omega)).fr Fw (fun t n k z => by omega) (by omega)
  · exact (Fw.2 _ _ _ (by omega)).trans ((F4.2 _ _ _ (by omega)).trans hC.2.1.1)
  · exact (Fw.2 _ _ _ (by omega)).trans ((F4.2 _ _ _ (by omega)).trans hC.2.1.2.1)
  · exact (Fw.2 _ _ _ (by omega)).trans ((F4.2 _ _ _ (by omega)).trans hC.2.1.2.2.1)
  · exact (Fw.2 _ _ _ (by omega)).trans y19
  · exact fun hz s hs => (Fw.2 _ _ _ (by omega)).trans ((F4.2 _ _ _ (by omega)).trans (hC.2.2.1 hz s hs))
  · refine MRD_add hC.2.2.2 hN48 hb.2 ((Fw.2 _ _ _ (by omega)).trans y0) (fun w hw => ?_) (fun k hk => (Fw.2 _ _ _ (by omega)).trans (F4.2 _ _ _ (by omega)))
    rw [Fw.2 _ _ _ (by omega), ← er', W4 w hw]
    exact hf w hw
  · exact (F4.mono (fun t n k z => by
      rcases z with z | z
      · exact Or.inl ⟨z.1, z.2.1, by omega⟩
      · exact Or.inr (Or.inl ⟨z.1, z.2.1⟩))).tr (Fw.mono (fun t n k z => Or.inl ⟨z.1, z.2.1, by omega⟩))
/-- the checks of the whole line -/
theorem nk_287 {l bd bh : Int} {tw : Bool} {x2 : Int32} {f : NF} (hx2 : x2 = iZ (3 * l)) (er : r = rowN p.2.2.2.1) (rl : 0 ≤ l ∧ l ≤ 20000) (hP : POK tp n p 815) (hb : 0 < p.2.2.2.2.2.1 ∧ p.2.2.2.2.2.1 ≤ 115) (h0 : MOk m) (hR : MRS m tp n p.1) (hC : MPC m p) (e26 : gI m 23 231 26 = iZ ls) (hM : MRow m r g) (rb : 0 ≤ bd ∧ bd ≤ 8) (rh : 0 ≤ bh ∧ bh ≤ 2) (y10 : g 10 = iZ bd) (y12 : g 12 = iZ bh) (y30 : gI m 23 231 30 = (if tw then 1 else 0))
    (hf : ∀ w, w < 30 → lasG g p.2.2.2.2.2.2.2 l ((p.2.2.2.2.2.1 : Int) - 1) p.2.1.1 p.2.1.2.1 w = iZ (mw w (f w)))
    (hF : ∀ m', (48 ≤ p.2.2.2.1 ∨ p.2.1.2.2.2 < p.2.2.2.2.2.2.2 + l ∨ (bh = 1 ∧ ¬ (bd = 1 ∨ bd = 8)) ∨ tw = true) → MFt m' (3, ls) → Fr AML m m' → K none m')
    (hS : ∀ m', ¬ (48 ≤ p.2.2.2.1 ∨ p.2.1.2.2.2 < p.2.2.2.2.2.2.2 + l ∨ (bh = 1 ∧ ¬ (bd = 1 ∨ bd = 8)) ∨ tw = true) → MRS m' tp n p.1 → MOk m' → MPC m' (p.1, p.2.1, p.2.2.1, addN p.2.2.2 f l) → gI m' 23 231 24 = 1 → Fr AML m m' → K none m') : smE true 151 287 [some (vR (some (23, 231))), some (vI (iZ r)), some (vI x2), none] [] m K := by
  have s1 := hP.2.2.2.1
  have rr := rowN_rng s1
  rw [← er] at rr
  have c10 : iZ (r : Int) + 10 = iZ ((r + 10 : Nat) : Int) := by rw [L10, iZ_add]; congr 1
  have c12 : iZ (r : Int) + 12 = iZ ((r + 12 : Nat) : Int) := by rw [L12, iZ_add]; congr 1
  have i10 : vp_in (iZ (r : Int) + 10) 1634 := by rw [c10]; exact (iZ_in (by constructor <;> omega)).mpr (by omega)
  have i12 : vp_in (iZ (r : Int) + 12) 1634 := by rw [c12]; exact (iZ_in (by constructor <;> omega)).mpr (by omega)
  have v10 : gI m 30 238 (iZ (r : Int) + 10).toNatClampNeg = iZ bd := by
    rw [c10, iZ_clamp (by constructor <;> omega), show ((r + 10 : Nat) : Int).toNat = r + 10 by omega, hM 10 (by decide), y10]
  have v12 : gI m 30 238 (iZ (r : Int) + 12).toNatClampNeg = iZ bh := by
    rw [c12, iZ_clamp (by constructor <;> omega), show ((r + 12 : Nat) : Int).toNat = r + 12 by omega, hM 12 (by decide), y12]
  have bad : ∀ {x3 : Int32}, ((bh = 1 ∧ ¬ (bd = 1 ∨ bd = 8)) ∨ tw = true) → smE true 151 351 [some (vR (some (23, 231))), some (vI (iZ r)), some (vI x2), some (vI x3)] [] m K := by
    intro x3 hc
    refine wp_ok (by decide) OK_151 (cc := cd_151) rfl (stops := [360]) 30 _ _ _ _ ?_
    refine And.intro trivial (M_fails (a := 3) (p := ls) rfl e26 h0 (fun m1 f1 F1 => ?_))
    refine And.intro trivial (nl_360 f1 (ek3 _) (fun m2 f2 F2 => hF m2 (Or.inr (Or.inr hc)) f2 ((F1.mono (fun t n k z => Or.inl ⟨z.1, z.2.1, by omega⟩)).tr (F2.mono (fun t n k z => Or.inl ⟨z.1, z.2.1, by omega⟩)))))
  have good : ∀ {x3 : Int32}, ¬ ((bh = 1 ∧ ¬ (bd = 1 ∨ bd = 8)) ∨ tw = true) → smE true 151 360 [some (vR (some (23, 231))), some (vI (iZ r)), some (vI x2), some (vI x3)] [] m K := by
    intro x3 hc
    exact nk_360 hx2 er rl hP hb h0 hR hC e26 hM hf (fun m' w => hF m' (w.elim Or.inl (fun y => Or.inr (Or.inl y)))) (fun m' w => hS m' (fun y => by
      rcases y with y | y | y
      · exact w (Or.inl y)
      · exact w (Or.inr y)
      · exact hc y))
  have test : ∀ {x3 : Int32}, (x3 = 1 ∧ (bd = 1 ∨ bd = 8) ∨ x3 = 0 ∧ ¬ (bd = 1 ∨ bd = 8)) → smE true 151 320 [some (vR (some (23, 231))), some (vI (iZ r)), some (vI x2), some (vI x3)] [] m K := by
    intro x3 h3
    refine wp_ok (by decide) OK_151 (cc := cd_151) rfl (stops := [351, 360]) 40 _ _ _ _ ?_
    refine And.intro (fun u => absurd h0.1 u) (fun _ => ?_)
    refine And.intro (fun u => ?_) (fun u => ?_)
    · refine And.intro trivial (bad (Or.inr ?_))
      cases tw with
      | false => exact absurd y30 u
      | true => rfl
    have hw : ¬ tw = true := by
      intro z; subst z; exact absurd (y30.symm.trans u) (by decide)
    refine And.intro i12 ?_
    refine And.intro (fun u => ?_) (fun u => ?_)
    · rw [v12, L1, iZ_eq (by constructor <;> omega) (by decide)] at u
      exact And.intro trivial (good (fun y => by
        rcases y with y | y
        · exact u y.1
        · exact hw y))
    rw [v12, L1, iZ_eq (by constructor <;> omega) (by decide)] at u
    refine And.intro (fun z => ?_) (fun z => ?_)
    · rcases h3 with ⟨_, h3⟩ | ⟨h3, _⟩
      · exact And.intro trivial (good (fun y => by
          rcases y with y | y
          · exact y.2 h3
          · exact hw y))
      · exact absurd h3 z
    · rcases h3 with ⟨h3, _⟩ | ⟨_, h3⟩
      · exact absurd (h3.symm.trans z) (by decide)
      · exact And.intro trivial (bad (Or.inl ⟨u, h3⟩))
  refine wp_ok (by decide) OK_151 (cc := cd_151) rfl (stops := [320]) 60 _ _ _ _ ?_
  refine And.intro i10 ?_
  refine And.intro (fun u => ?_) (fun u => ?_)
  · rw [v10, L1, iZ_eq (by constructor <;> omega) (by decide)] at u
    exact And.intro trivial (test (Or.inl ⟨rfl, Or.inl u⟩))
  rw [v10, L1, iZ_eq (by constructor <;> omega) (by decide)] at u
  refine And.intro i10 ?_
  refine And.intro (fun z => ?_) (fun z => ?_)
  · rw [v10, L8, iZ_eq (by constructor <;> omega) (by decide)] at z
    exact And.intro trivial (test (Or.inr ⟨rfl, by omega⟩))
  · rw [v10, L8, iZ_eq (by constructor <;> omega) (by decide)] at z
    exact And.intro trivial (test (Or.inl ⟨rfl, Or.inr z⟩))
/-- what is behind the tone of a note -/
def pN2 (tp : Nat → Int) (n ls : Nat) (p : PS) (x : Int × Int × Int) : RE PS :=
    match pFrac tp n 32 32 p.1 with
    | .inl e => .inl e
    | .inr (l, t2) =>
      match pPre tp n p.2.1.1 p.2.2.1 t2 with
      | .inl e => .inl e
      | .inr (pf, gs, told2, t3) =>
        match pBody tp n t3 with
        | .inl e => .inl e
        | .inr (bd, q, t4) =>
          if 48 ≤ p.2.2.2.1 ∨ p.2.1.2.2.2 < p.2.2.2.2.2.2.2 + l ∨ ((pBeh tp n t4).1 = 1 ∧ ¬ (bd = 1 ∨ bd = 8)) ∨ q.2.2 = true then .inl (3, ls)
          else .inr ((pBeh tp n t4).2, p.2.1, told2, addN p.2.2.2 (mkF [1, x.1, x.2.1, x.2.2, p.2.2.2.2.2.2.2, l, (p.2.2.2.2.2.1 : Int) - 1, 0, p.2.1.1, p.2.1.2.1, bd, pf, (pBeh tp n t4).1, q.1, q.2.1, tldN p.2.2.1 (7 * x.2.1 + x.1 + 1), tldN p.2.2.1 (7 * x.2.1 + x.1 - 1), tldN p.2.2.1 (7 * x.2.1 + x.1 - 2)] gs) l)
theorem pNote_2 {p0 : PS} : pNote tp n ls p0 = (match pPitch tp n (openB p0).2.1.1 (openB p0).2.2.1 (openB p0).1 with
  | .inl e => .inl e
  | .inr (x, told1, t1) => pN2 tp n ls (t1, (openB p0).2.1, told1, (openB p0).2.2.2) x) := rfl
end MNL
