def Fix (i : Nat) (p : Program) (s : State) (m : MethodId) (args : Array Value) (meth : Method) (c : Code) : Prop :=
  p.tables.exec = Jvm.exec ∧ c.code = mB i ∧ c.maxLocals = mL i ∧ meth.sig.returnType = mR i ∧ meth.locks = false ∧ meth.name = (mN i).name ∧ s.vm.findClass (mN i).cls = some m.cls ∧ ∀ w ∈ GW, w.before args s = true
def QcC (C : Ctx) (v : Option SV) (M' : Mem) : Array Value → State → Outcome → State → Prop := fun _ st o t => o = .returned (v.map (tv C)) ∧ HR C M' t.heap ∧ va_F (cA C) st t
def PcC (C : Ctx) (as : List SV) (M : Mem) : Array Value → State → Prop := va_Pc (as.map (tv C)) (fun U => Sta C (gL M 63 0) (gI M 63 0) U ∧ HR C M U.heap)
/-- the machine's locals hold the simple ones -/
def LR (C : Ctx) (nL : Nat) (ls : Array Slot) (sl : List (Option SV)) : Prop := ls.size = nL ∧ lv_wf ls ∧ sl.length = nL ∧ ∀ (j : Nat) (v : SV), sl[j]? = some (some v) → ls[j]? = some (.val (tv C v))
/-- from this place of method i the machine comes to its end with v and the memory M' -/
def Go (i pc : Nat) (sl : List (Option SV)) (st : List SV) (M : Mem) (v : Option SV) (M' : Mem) : Prop :=
  ∀ (l : Launch) (C : Ctx) (p : Program) (e : Env) (R : Room) (s : State) (m : MethodId) (args : Array Value) (below : List Frame) (meth : Method) (c : Code) (H : Heap) (locs : List Loc) (cells slots : Nat) (ls : Array Slot),
    Fix i p s m args meth c → Sta C (gL M 63 0) (gI M 63 0) s → HR C M H → va_S (cA C) s.heap H locs → LR C (mL i) ls sl →
    cells + (nX M' - nX M) ≤ R.cells → slots + (nS M' - nS M) ≤ R.slots → rk i ≤ R.frames → lq i ≤ R.locals →
    W p l e R s m args below meth c H locs cells slots (MQ below (QcC C v M') args s (cells + (nX M' - nX M)) (slots + (nS M' - nS M)) (cA C)) (F0 m pc ls (st.map (tv C)))
/-- what every run keeps -/
def Ext (m m' : Mem) : Prop := nX m ≤ nX m' ∧ nS m ≤ nS m' ∧ (∀ a, okR m a → okR m' a) ∧ gL m' 63 0 = gL m 63 0 ∧ gI m' 63 0 = gI m 63 0
def okO (m : Mem) (v : Option SV) : Prop := ∀ w, v = some w → okV m w
def smE (md : Bool) (i pc : Nat) (sl : List (Option SV)) (st : List SV) (M : Mem) (Q : Option SV → Mem → Prop) : Prop :=
  okL M sl → okS M st → okM M → (md = true → FRok M) → ∃ (v : Option SV) (M' : Mem), Q v M' ∧ Ext M M' ∧ okO M' v ∧ okM M' ∧ (md = true → FRok M') ∧ Go i pc sl st M v M'
def mW (y : Nat) : List Cond := .code (mN y) (mB y) (mL y) (mR y) :: GW
def rmY (y : Nat) (M M' : Mem) : Room := { frames := rk y, cells := nX M' - nX M, slots := nS M' - nS M, locals := lq y }
/-- a call of method y comes back with v and the memory M' -/
def Tr (y : Nat) (as : List SV) (M : Mem) (v : Option SV) (M' : Mem) : Prop :=
  ∀ (l : Launch) (C : Ctx), Met l (mN y) (mW y) (rmY y M M') (PcC C as M) (QcC C v M') (nX M' - nX M) (nS M' - nS M) (cA C)
def smC (md : Bool) (y : Nat) (as : List SV) (M : Mem) (K : Option SV → Mem → Prop) : Prop :=
  okS M as → okM M → (md = true → FRok M) → ∃ (v : Option SV) (M' : Mem), K v M' ∧ Ext M M' ∧ okO M' v ∧ okM M' ∧ (md = true → FRok M') ∧ Tr y as M v M'
/-- a step of the walk: from m to m', dn new cells of dz slots -/
theorem E_gen {md : Bool} {i pc pc' : Nat} {sl sl' : List (Option SV)} {st st' : List SV} {m m' : Mem} {Q : Option SV → Mem → Prop} (dn dz : Nat) (hE : smE md i pc' sl' st' m' Q)
    (hok : okL m sl → okS m st → okM m → (md = true → FRok m) → okL m' sl' ∧ okS m' st' ∧ okM m' ∧ (md = true → FRok m'))
    (hx : Ext m m') (hn : nX m' = nX m + dn) (hz : nS m' = nS m + dz)
    (hW : ∀ (l : Launch) (C : Ctx) (p : Program) (e : Env) (R : Room) (s : State) (mm : MethodId) (args : Array Value) (below : List Frame) (meth : Method) (c : Code) (H : Heap) (locs : List Loc) (cells slots : Nat) (ls : Array Slot) (Qf : State → Prop),
      okL m sl → okS m st → okM m → (md = true → FRok m) → Fix i p s mm args meth c → Sta C (gL m 63 0) (gI m 63 0) s → HR C m H → va_S (cA C) s.heap H locs → LR C (mL i) ls sl → cells + dn ≤ R.cells → slots + dz ≤ R.slots → rk i ≤ R.frames → lq i ≤ R.locals →
      (∀ (H1 : Heap) (locs1 : List Loc) (ls1 : Array Slot), HR C m' H1 → va_S (cA C) s.heap H1 locs1 → LR C (mL i) ls1 sl' → W p l e R s mm args below meth c H1 locs1 (cells + dn) (slots + dz) Qf (F0 mm pc' ls1 (st'.map (tv C)))) →
      W p l e R s mm args below meth c H locs cells slots Qf (F0 mm pc ls (st.map (tv C)))) : smE md i pc sl st m Q := by
  intro h1 h2 h3 h4
  obtain ⟨k1, k2, k3, k4⟩ := hok h1 h2 h3 h4
  obtain ⟨v, M', hQ, hx2, hv, hM, hF, hG⟩ := hE k1 k2 k3 k4
  refine ⟨v, M', hQ, ⟨Nat.le_trans hx.1 hx2.1, Nat.le_trans hx.2.1 hx2.2.1, fun a h => hx2.2.2.1 a (hx.2.2.1 a h), hx2.2.2.2.1.trans hx.2.2.2.1, hx2.2.2.2.2.trans hx.2.2.2.2⟩, hv, hM, hF, ?_⟩
  intro l C p e R s mm args below meth c H locs cells slots ls f1 f2 f3 f4 f5 f6 f7 f8 f9
  have g1 := hx2.1
  have g2 := hx2.2.1
  refine hW l C p e R s mm args below meth c H locs cells slots ls _ h1 h2 h3 h4 f1 f2 f3 f4 f5 (by omega) (by omega) f8 f9 (fun H1 locs1 ls1 q1 q2 q3 => ?_)
  have e1 : cells + (nX M' - nX m) = cells + dn + (nX M' - nX m') := by omega
  have e2 : slots + (nS M' - nS m) = slots + dz + (nS M' - nS m') := by omega
  rw [e1, e2]
  exact hG l C p e R s mm args below meth c H1 locs1 (cells + dn) (slots + dz) ls1 f1 (by rw [hx.2.2.2.1, hx.2.2.2.2]; exact f2) q1 q2 q3 (by omega) (by omega) f8 f9
theorem Ext.rf (m : Mem) : Ext m m := ⟨Nat.le_refl _, Nat.le_refl _, fun _ h => h, rfl, rfl⟩
/-- a step that leaves the memory as it is -/
theorem E_pure {md : Bool} {i pc pc' : Nat} {sl sl' : List (Option SV)} {st st' : List SV} {m : Mem} {Q : Option SV → Mem → Prop} (hE : smE md i pc' sl' st' m Q)
    (hok : okL m sl → okS m st → okL m sl' ∧ okS m st')
    (hW : ∀ (l : Launch) (C : Ctx) (p : Program) (e : Env) (R : Room) (s : State) (mm : MethodId) (args : Array Value) (below : List Frame) (meth : Method) (c : Code) (H : Heap) (locs : List Loc) (cells slots : Nat) (ls : Array Slot) (Qf : State → Prop),
      okL m sl → okS m st → okM m → (md = true → FRok m) → Fix i p s mm args meth c → Sta C (gL m 63 0) (gI m 63 0) s → HR C m H → va_S (cA C) s.heap H locs → LR C (mL i) ls sl → rk i ≤ R.frames → lq i ≤ R.locals →
      (∀ (ls1 : Array Slot), LR C (mL i) ls1 sl' → W p l e R s mm args below meth c H locs cells slots Qf (F0 mm pc' ls1 (st'.map (tv C)))) →
      W p l e R s mm args below meth c H locs cells slots Qf (F0 mm pc ls (st.map (tv C)))) : smE md i pc sl st m Q := by
  refine E_gen 0 0 hE (fun a b c d => ⟨(hok a b).1, (hok a b).2, c, d⟩) (Ext.rf m) rfl rfl ?_
  intro l C p e R s mm args below meth c H locs cells slots ls Qf a1 a2 a3 a4 a5 a6 a7 a8 a9 a10 a11 a12 a13 k
  exact hW l C p e R s mm args below meth c H locs cells slots ls Qf a1 a2 a3 a4 a5 a6 a7 a8 a9 a12 a13 (fun ls1 h => k H locs ls1 a7 a8 h)
