/-! THE TEXT: what a line tells -/
def upq {α : Type} (g : Nat → α) (k : Nat) (v : α) : Nat → α := fun i => if i = k then v else g i
def pFrac (tp : Nat → Int) (n : Nat) (mu ml : Int) (t : TK) : RE (Int × TK) :=
  match pNum tp n 1 mu t with
  | .inl e => .inl e
  | .inr (u, t1) =>
    if ¬ (t1.1 = 3 ∧ t1.2.2.1 = 47) then .inl (1, t1.2.1)
    else if (nx tp n t1).1 = 2 ∧ ¬ pw2 (nx tp n t1).2.2.1 = true then .inl (2, (nx tp n t1).2.1)
    else match pNum tp n 1 ml (nx tp n t1) with
      | .inl e => .inl e
      | .inr (l, t3) => .inr (u * 512 / l, t3)
/-- a tone: letter, octave, number; what the bar has told then; the next token -/
def pPitch (tp : Nat → Int) (n : Nat) (key : Int) (told : Nat → Int) (t : TK) : RE ((Int × Int × Int) × (Nat → Int) × TK) :=
  if letT tp t < 0 then .inl (1, t.2.1)
  else match pNum tp n 0 8 (if sgn (nx tp n t) = 2 then nx tp n t else nx tp n (nx tp n t)) with
    | .inl e => .inl e
    | .inr (o, t3) =>
      let st := 7 * o + letT tp t
      let told' := if sgn (nx tp n t) = 2 then told else upq told st.toNat (sgn (nx tp n t))
      .inr ((letT tp t, o, byN st (told' st.toNat) key), told', t3)
def pGrs (tp : Nat → Int) (n : Nat) (key : Int) : Nat → Nat → (Nat → Int) → (Nat → Int × Int × Int) → TK → RE (Nat × (Nat → Int × Int × Int) × (Nat → Int) × TK)
  | 0, k, told, gs, t => .inr (k, gs, told, t)
  | f + 1, k, told, gs, t =>
    match pPitch tp n key told t with
    | .inl e => .inl e
    | .inr (x, told', t1) => if k + 1 < 4 ∧ 0 ≤ letT tp t1 then pGrs tp n key f (k + 1) told' (upq gs k x) t1 else .inr (k + 1, upq gs k x, told', t1)
def g0 : Nat → Int × Int × Int := fun _ => (0, 0, 0)
def pPre (tp : Nat → Int) (n : Nat) (key : Int) (told : Nat → Int) (t : TK) : RE (Int × (Nat → Int × Int × Int) × (Nat → Int) × TK) :=
  if isW tp 8 t = true then .inr (6, g0, told, nx tp n t)
  else if isW tp 6 t = true then (match pGrs tp n key 4 0 told g0 (nx tp n t) with
    | .inl e => .inl e
    | .inr (k, gs, told', t') => .inr ((k : Int), gs, told', t'))
  else if isW tp 7 t = true then (match pPitch tp n key told (nx tp n t) with
    | .inl e => .inl e
    | .inr (x, told', t') => .inr (5, upq g0 0 x, told', t'))
  else .inr (0, g0, told, t)
/-- signs above a body: up, down, told twice -/
def pSgs (tp : Nat → Int) (n : Nat) : Nat → Int × Int × Bool → TK → RE ((Int × Int × Bool) × TK)
  | 0, q, t => .inr (q, t)
  | f + 1, q, t =>
    if isW tp 17 t = true ∨ isW tp 18 t = true then
      (if sgn (nx tp n t) = 2 then .inl (1, (nx tp n t).2.1)
      else pSgs tp n f (if isW tp 17 t = true then (sgn (nx tp n t), q.2.1, q.2.2 || decide (q.1 ≠ 2)) else (q.1, sgn (nx tp n t), q.2.2 || decide (q.2.1 ≠ 2))) (nx tp n (nx tp n t)))
    else .inr (q, t)
def pBody (tp : Nat → Int) (n : Nat) (t : TK) : RE (Int × (Int × Int × Bool) × TK) :=
  if bodyF tp t 8 = 0 then .inr (0, (2, 2, false), t)
  else match pSgs tp n n (2, 2, false) (nx tp n t) with
    | .inl e => .inl e
    | .inr (q, t') => .inr (bodyF tp t 8, q, t')
def pBeh (tp : Nat → Int) (n : Nat) (t : TK) : Int × TK := if isW tp 19 t = true then (1, nx tp n t) else if isW tp 20 t = true then (2, nx tp n t) else (0, t)
abbrev PS := TK × (Int × Int × Int × Int) × (Nat → Int) × Dt
def openB (p : PS) : PS := if p.2.2.2.2.2.2.2 = p.2.1.2.2.2 then (p.1, (p.2.1.1, p.2.1.2.1, p.2.1.2.2.1, p.2.1.2.2.2 + p.2.1.2.2.1), fun _ => 2, (p.2.2.2.1, p.2.2.2.2.1, p.2.2.2.2.2.1 + 1, upq p.2.2.2.2.2.2.1 p.2.2.2.2.2.1 p.2.2.2.2.2.2.2, p.2.2.2.2.2.2.2)) else p
def mkF (L : List Int) (gs : Nat → Int × Int × Int) : NF := fun w => if w < 18 then L.getD w 0 else if w < 22 then (gs (w - 18)).1 else if w < 26 then (gs (w - 22)).2.1 else (gs (w - 26)).2.2
def addN (D : Dt) (f : NF) (l : Int) : Dt := (D.1 + 1, upq D.2.1 D.1 f, D.2.2.1, D.2.2.2.1, D.2.2.2.2 + l)
def pRest (tp : Nat → Int) (n ls : Nat) (p0 : PS) : RE PS :=
  let p := openB p0
  match pFrac tp n 32 32 p.1 with
  | .inl e => .inl e
  | .inr (l, t') => if 48 ≤ p.2.2.2.1 ∨ p.2.1.2.2.2 < p.2.2.2.2.2.2.2 + l then .inl (3, ls)
    else .inr (t', p.2.1, p.2.2.1, addN p.2.2.2 (mkF [0, 0, 0, 0, p.2.2.2.2.2.2.2, l, (p.2.2.2.2.2.1 : Int) - 1, 0, p.2.1.1, p.2.1.2.1, 0, 0, 0, 0, 0, 0, 0, 0] g0) l)
def tieF (f : NF) (l : Int) : NF := fun w => if w = 5 then f 5 + l else if w = 7 then f 7 + 1 else f w
def pTie (tp : Nat → Int) (n ls : Nat) (p0 : PS) : RE PS :=
  let p := openB p0
  match pFrac tp n 32 32 p.1 with
  | .inl e => .inl e
  | .inr (l, t') => if ¬ (0 < p.2.2.2.1 ∧ p.2.2.2.2.1 (p.2.2.2.1 - 1) 0 = 1) ∨ p.2.1.2.2.2 < p.2.2.2.2.2.2.2 + l then .inl (3, ls)
    else .inr (t', p.2.1, p.2.2.1, (p.2.2.2.1, upq p.2.2.2.2.1 (p.2.2.2.1 - 1) (tieF (p.2.2.2.2.1 (p.2.2.2.1 - 1)) l), p.2.2.2.2.2.1, p.2.2.2.2.2.2.1, p.2.2.2.2.2.2.2 + l))
def pNote (tp : Nat → Int) (n ls : Nat) (p0 : PS) : RE PS :=
  let p := openB p0
  match pPitch tp n p.2.1.1 p.2.2.1 p.1 with
  | .inl e => .inl e
  | .inr (x, told1, t1) =>
    match pFrac tp n 32 32 t1 with
    | .inl e => .inl e
    | .inr (l, t2) =>
      match pPre tp n p.2.1.1 told1 t2 with
      | .inl e => .inl e
      | .inr (pf, gs, told2, t3) =>
        match pBody tp n t3 with
        | .inl e => .inl e
        | .inr (bd, q, t4) =>
          if 48 ≤ p.2.2.2.1 ∨ p.2.1.2.2.2 < p.2.2.2.2.2.2.2 + l ∨ ((pBeh tp n t4).1 = 1 ∧ ¬ (bd = 1 ∨ bd = 8)) ∨ q.2.2 = true then .inl (3, ls)
          else .inr ((pBeh tp n t4).2, p.2.1, told2, addN p.2.2.2 (mkF [1, x.1, x.2.1, x.2.2, p.2.2.2.2.2.2.2, l, (p.2.2.2.2.2.1 : Int) - 1, 0, p.2.1.1, p.2.1.2.1, bd, pf, (pBeh tp n t4).1, q.1, q.2.1, tldN told1 (7 * x.2.1 + x.1 + 1), tldN told1 (7 * x.2.1 + x.1 - 1), tldN told1 (7 * x.2.1 + x.1 - 2)] gs) l)
def pKey (tp : Nat → Int) (n : Nat) (p : PS) : RE PS :=
  match pNum tp n 0 7 (if p.1.1 = 3 ∧ p.1.2.2.1 = 45 then nx tp n p.1 else p.1) with
  | .inl e => .inl e
  | .inr (v, t') => .inr (t', (if p.1.1 = 3 ∧ p.1.2.2.1 = 45 then -v else v, p.2.1.2), p.2.2)
def pMeter (tp : Nat → Int) (n ls : Nat) (p : PS) : RE PS :=
  match pFrac tp n 16 16 p.1 with
  | .inl e => .inl e
  | .inr (l, t') => if ¬ p.2.2.2.2.2.2.2 = p.2.1.2.2.2 then .inl (3, ls) else .inr (t', (p.2.1.1, p.2.1.2.1, l, p.2.1.2.2.2), p.2.2)
def pSpeed (tp : Nat → Int) (n : Nat) (p : PS) : RE PS :=
  match pNum tp n 20 400 p.1 with
  | .inl e => .inl e
  | .inr (v, t') => .inr (t', (p.2.1.1, v, p.2.1.2.2.1, p.2.1.2.2.2), p.2.2)
def pBodyL (tp : Nat → Int) (n : Nat) (p : PS) : RE PS :=
  let p' : PS := (nx tp n p.1, p.2)
  if isW tp 4 p.1 = true then pNote tp n p.1.2.1 p'
  else if isW tp 3 p.1 = true then pRest tp n p.1.2.1 p'
  else if isW tp 5 p.1 = true then pTie tp n p.1.2.1 p'
  else if isW tp 0 p.1 = true then pKey tp n p'
  else if isW tp 1 p.1 = true then pMeter tp n p.1.2.1 p'
  else if isW tp 2 p.1 = true then pSpeed tp n p'
  else .inl (1, p.1.2.1)
def pLine (tp : Nat → Int) (n : Nat) (p : PS) : RE PS :=
  match pBodyL tp n p with
  | .inl e => .inl e
  | .inr p' => if p'.1.1 = 3 ∧ p'.1.2.2.1 = 59 then .inr (nx tp n p'.1, p'.2) else .inl (1, p'.1.2.1)
def pText (tp : Nat → Int) (n : Nat) : Nat → PS → RE PS
  | 0, p => .inr p
  | f + 1, p => if p.1.1 = 0 then .inr p else match pLine tp n p with
    | .inl e => .inl e
    | .inr p' => pText tp n f p'
def pAll (tp : Nat → Int) (n : Nat) : RE PS := pText tp n (n + 1) (scan tp n 0, (0, 100, 512, 0), fun _ => 2, (0, fun _ _ => 0, 0, fun _ => 0, 0))
