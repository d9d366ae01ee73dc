def ldL : List (Option SV) → Nat → Option SV
  | [], _ => none
  | a :: _, 0 => a
  | _ :: l, n + 1 => ldL l n
/-- a store of a value of one word; a long ahead of it goes -/
def stL : List (Option SV) → Nat → SV → (List (Option SV) → Prop) → Prop
  | [], _, _, _ => False
  | _ :: l, 0, v, k => k (some v :: l)
  | a :: l, n + 1, v, k => match n, l, a with
    | 0, _ :: l2, some (.inl x) => k (some (.inl x) :: some v :: l2)
    | 0, _ :: l2, some (.inr (.inr r)) => k (some (.inr (.inr r)) :: some v :: l2)
    | 0, _ :: l2, none => k (none :: some v :: l2)
    | 0, _ :: l2, some (.inr (.inl _)) => k (none :: some v :: l2)
    | 0, [], _ => False
    | n + 1, l, a => stL l (n + 1) v (fun l' => k (a :: l'))
def clL : List (Option SV) → Nat → (List (Option SV) → Prop) → Prop
  | [], _, _ => False
  | _ :: l, 0, k => k (none :: l)
  | a :: l, n + 1, k => clL l n (fun l' => k (a :: l'))
def popK : Nat → List SV → List SV → (List SV → List SV → Prop) → Prop
  | 0, st, acc, k => k acc st
  | n + 1, v :: st, acc, k => popK n st (v :: acc) k
  | _ + 1, [], _, _ => False
/-- words on the stack -/
def catS : List SV → Nat
  | [] => 0
  | .inr (.inl _) :: s => catS s + 2
  | .inl _ :: s => catS s + 1
  | .inr (.inr _) :: s => catS s + 1
def tsw (x : Int32) : List (Int32 × Nat) → (Nat → Prop) → Prop → Prop
  | [], _, d => d
  | q :: ts, k, d => (x = q.1 → k q.2) ∧ tsw x ts k d
abbrev Kt := Nat → List (Option SV) → List SV → Mem → Prop
/-- a conditional jump -/
abbrev brc (c : Prop) (K : Kt) (t n : Nat) (ls : List (Option SV)) (s : List SV) (m : Mem) : Prop := (c → K t ls s m) ∧ (¬ c → K n ls s m)
def sLoad (v : Option SV) (K : Kt) (n : Nat) (ls : List (Option SV)) (st : List SV) (m : Mem) (c : Nat) : Prop := match c, v with
  | 0, some (.inl x) => K n ls (vI x :: st) m
  | 1, some (.inr (.inl x)) => K n ls (vL x :: st) m
  | 2, some (.inr (.inr r)) => K n ls (vR r :: st) m
  | _, _ => False
def sStore (st : List SV) (K : Kt) (n : Nat) (ls : List (Option SV)) (m : Mem) (c j : Nat) : Prop := match c, st with
  | 0, .inl x :: s => stL ls j (vI x) (fun l' => K n l' s m)
  | 1, .inr (.inl x) :: s => stL ls j (vL x) (fun l' => clL l' (j + 1) (fun l2 => K n l2 s m))
  | 2, .inr (.inr r) :: s => stL ls j (vR r) (fun l' => K n l' s m)
  | _, _ => False
def sIf (c : ClassFile.Cond) (st : List SV) (K : Kt) (t n : Nat) (ls : List (Option SV)) (m : Mem) : Prop := match st with
  | .inl x :: s => (match c with
    | .eq => brc (x = 0) K t n ls s m
    | .ne => (¬ x = 0 → K t ls s m) ∧ (x = 0 → K n ls s m)
    | .lt => brc (x < 0) K t n ls s m
    | .ge => brc (0 ≤ x) K t n ls s m
    | .gt => brc (0 < x) K t n ls s m
    | .le => brc (x ≤ 0) K t n ls s m)
  | _ => False
def sCmp (c : ClassFile.Cond) (st : List SV) (K : Kt) (t n : Nat) (ls : List (Option SV)) (m : Mem) : Prop := match st with
  | .inl y :: .inl x :: s => (match c with
    | .eq => brc (x = y) K t n ls s m
    | .ne => (¬ x = y → K t ls s m) ∧ (x = y → K n ls s m)
    | .lt => brc (x < y) K t n ls s m
    | .ge => brc (y ≤ x) K t n ls s m
    | .gt => brc (y < x) K t n ls s m
    | .le => brc (x ≤ y) K t n ls s m)
  | _ => False
def sNull (b : Bool) (st : List SV) (K : Kt) (t n : Nat) (ls : List (Option SV)) (m : Mem) : Prop := match st with
  | .inr (.inr none) :: s => (match b with
    | true => K t ls s m
    | false => K n ls s m)
  | .inr (.inr (some (g, _))) :: s => (match Nat.beq g 65 with
    | true => False
    | false => (match b with
      | true => K n ls s m
      | false => K t ls s m))
  | _ => False
def sDup (st : List SV) (K : Kt) (n : Nat) (ls : List (Option SV)) (m : Mem) : Prop := match st with
  | .inl x :: s => K n ls (vI x :: vI x :: s) m
  | .inr (.inr r) :: s => K n ls (vR r :: vR r :: s) m
  | _ => False
def sPop (st : List SV) (K : Kt) (n : Nat) (ls : List (Option SV)) (m : Mem) : Prop := match st with
  | .inl _ :: s => K n ls s m
  | .inr (.inr _) :: s => K n ls s m
  | _ => False
def sDup2 (st : List SV) (K : Kt) (n : Nat) (ls : List (Option SV)) (m : Mem) : Prop := match st with
  | .inl x :: .inr (.inr r) :: s => K n ls (vI x :: vR r :: vI x :: vR r :: s) m
  | _ => False
def sDupX1 (st : List SV) (K : Kt) (n : Nat) (ls : List (Option SV)) (m : Mem) : Prop := match st with
  | .inl x :: .inr (.inr r) :: s => K n ls (vI x :: vR r :: vI x :: s) m
  | _ => False
def sGet (md : Bool) (st : List SV) (K : Kt) (n : Nat) (ls : List (Option SV)) (m : Mem) (r1 r2 r3 : Nat) : Prop := match st with
  | .inr (.inr (some (t, c))) :: s => (match Nat.beq (tc t) r1 with
    | true => (match Nat.ble 60 t with
      | true => (match r2 with
        | 0 => K n ls (vR (some (62, c)) :: s) m
        | _ => K n ls (vI 0 :: s) m)
      | false => (match r3 with
        | 3 => (match md with
          | true => (match FR t r2 c with
            | some a => K n ls (vR (some a) :: s) m
            | none => ∃ r, gP m t c r2 = r ∧ K n ls (vR r :: s) m)
          | false => ∃ r, gP m t c r2 = r ∧ K n ls (vR r :: s) m)
        | _ => K n ls (vI (gI m t c r2) :: s) m))
    | false => False)
  | _ => False
def sPut (md : Bool) (st : List SV) (K : Kt) (n : Nat) (ls : List (Option SV)) (m : Mem) (r1 r2 r3 : Nat) : Prop := match r3, st with
  | 0, .inl x :: .inr (.inr (some (t, c))) :: s => (match Nat.beq (tc t) r1, Nat.ble 60 t with
    | true, false => K n ls s (sI m t c r2 x)
    | _, _ => False)
  | 1, .inl x :: .inr (.inr (some (t, c))) :: s => (match Nat.beq (tc t) r1, Nat.ble 60 t with
    | true, false => (x = 0 ∨ x = 1) ∧ K n ls s (sI m t c r2 x)
    | _, _ => False)
  | 2, .inl x :: .inr (.inr (some (t, c))) :: s => (match Nat.beq (tc t) r1, Nat.ble 60 t with
    | true, false => x.toInt8.toInt32 = x ∧ K n ls s (sI m t c r2 x)
    | _, _ => False)
  | 3, .inr (.inr r) :: .inr (.inr (some (t, c))) :: s => (match Nat.beq (tc t) r1, Nat.ble 60 t with
    | true, false => (match md with
      | false => K n ls s (sP m t c r2 r)
      | true => (match FR t r2 c with
        | some _ => False
        | none => K n ls s (sP m t c r2 r)))
    | _, _ => False)
  | _, _ => False
def sStat (r1 r2 : Nat) (st : List SV) (K : Kt) (n : Nat) (ls : List (Option SV)) (m : Mem) : Prop := match r1 with
  | 1 => K n ls (vI 1 :: st) m
  | 60 => K n ls (vR (some (60, r2)) :: st) m
  | 64 => K n ls (vR (some (64, r2)) :: st) m
  | 65 => K n ls (vR (some (65, 0)) :: st) m
  | _ => False
def sLen (st : List SV) (K : Kt) (n : Nat) (ls : List (Option SV)) (m : Mem) : Prop := match st with
  | .inr (.inr (some (t, c))) :: s => (match tk t with
    | 0 => False
    | 9 => False
    | _ => lnK m t c (fun z => K n ls (vI (nI z) :: s) m))
  | _ => False
def sAld (b : Nat) (st : List SV) (K : Kt) (n : Nat) (ls : List (Option SV)) (m : Mem) : Prop := match st with
  | .inl i :: .inr (.inr (some (t, c))) :: s => (match Nat.beq (tk t) b with
    | true => (match Nat.ble 60 t, Nat.beq t 63 with
      | true, false => lnK m t c (fun z => vp_in i z ∧ K n ls (vI (stT t c i.toNatClampNeg) :: s) m)
      | _, _ => lnK m t c (fun z => vp_in i z ∧ K n ls (vI (gI m t c i.toNatClampNeg) :: s) m))
    | false => False)
  | _ => False
def sAst (b : Nat) (st : List SV) (K : Kt) (n : Nat) (ls : List (Option SV)) (m : Mem) : Prop := match st with
  | .inl x :: .inl i :: .inr (.inr (some (t, c))) :: s => (match Nat.beq (tk t) b, Nat.ble 60 t with
    | true, false => (match b with
      | 1 => lnK m t c (fun z => vp_in i z ∧ K n ls s (sI m t c i.toNatClampNeg x))
      | _ => lnK m t c (fun z => vp_in i z ∧ K n ls s (sI m t c i.toNatClampNeg x.toInt8.toInt32)))
    | _, _ => False)
  | _ => False
def sAald (md : Bool) (st : List SV) (K : Kt) (n : Nat) (ls : List (Option SV)) (m : Mem) : Prop := match st, md with
  | .inl i :: .inr (.inr (some (t, c))) :: s, true => (match Nat.beq t 11 with
    | true => vp_in i 49 ∧ K n ls (vR (some (8, c + 2 + 2 * i.toNatClampNeg)) :: s) m
    | false => False)
  | _, _ => False
def sAast (md : Bool) (st : List SV) (K : Kt) (n : Nat) (ls : List (Option SV)) (m : Mem) : Prop := match st, md with
  | .inr (.inr (some (8, q))) :: .inl i :: .inr (.inr (some (t, c))) :: s, false => (match Nat.beq t 11 with
    | true => vp_in i 49 ∧ K n ls s (sP m t c i.toNatClampNeg (some (8, q)))
    | false => False)
  | _, _ => False
def okTag (md : Bool) (t : Nat) : Bool := match md with
  | false => true
  | true => Nat.ble 20 t && Nat.ble t 22
def sNew (md : Bool) (r1 r2 : Nat) (st : List SV) (K : Kt) (n : Nat) (ls : List (Option SV)) (m : Mem) : Prop := match okTag md r2 && Nat.beq (tc r2) r1 with
  | true => K n ls (vR (some (r2, nX m)) :: st) (al m r2 (nf r1))
  | false => False
def sNewa (md : Bool) (b r2 : Nat) (st : List SV) (K : Kt) (n : Nat) (ls : List (Option SV)) (m : Mem) : Prop := match st with
  | .inl x :: s => (match okTag md r2 && Nat.beq (tk r2) b with
    | true => (match tl r2 with
      | some z => (¬ x < 0 ∧ x.toNatClampNeg = z) ∧ K n ls (vR (some (r2, nX m)) :: s) (al m r2 z)
      | none => (¬ x < 0 ∧ x.toNatClampNeg ≤ 100000) ∧ K n ls (vR (some (r2, nX m)) :: s) (al m r2 x.toNatClampNeg))
    | false => False)
  | _ => False
def sCall (md : Bool) (i : Nat) (kd : Nat) (y na : Nat) (st : List SV) (K : Kt) (n : Nat) (ls : List (Option SV)) (m : Mem) : Prop := match Nat.ble 2000 y with
  | true => (match kd, y, st with
    | 1, 2000, .inr (.inr (some (t, _))) :: s => (match Nat.ble 60 t, Nat.ble (catS s) 8 with
      | false, true => K n ls s m
      | _, _ => False)
    | 0, 2001, .inl ln' :: .inl dp :: .inr (.inr (some (td, cd'))) :: .inl sp :: .inr (.inr (some (ts, cs'))) :: s =>
      (match Nat.ble 60 td, Nat.ble 60 ts, Nat.beq (tk td) (tk ts), (Nat.beq (tk td) 1 || Nat.beq (tk td) 2) && Nat.ble (catS s) 8 with
      | false, false, true, true => (¬ (td, cd') = (ts, cs') ∧ ¬ sp < 0 ∧ ¬ dp < 0 ∧ ¬ ln' < 0 ∧ sp.toNatClampNeg + ln'.toNatClampNeg ≤ ln m ts cs' ∧ dp.toNatClampNeg + ln'.toNatClampNeg ≤ ln m td cd' ∧ (tk td = 2 → ∀ j, (gI m ts cs' j).toInt8.toInt32 = gI m ts cs' j)) ∧
          K n ls s (sA m td cd' (va_cpy (gI m ts cs') (gI m td cd') sp.toNatClampNeg dp.toNatClampNeg ln'.toNatClampNeg))
      | _, _, _, _ => False)
    | _, _, _ => False)
  | false => popK na st [] (fun as s => match Nat.ble (catS s) 8 with
    | false => False
    | true => (match kd, as with
    | 2, .inr (.inr (some (t, c))) :: as' => (match Nat.beq (tc t) (mcl y) with
      | true => True ∧ smC md y (.inr (.inr (some (t, c))) :: as') m (fun v m' => match v with
        | some w => K n ls (w :: s) m'
        | none => K n ls s m')
      | false => False)
    | 1, .inr (.inr (some (t, c))) :: as' => (match Nat.ble 60 t with
      | false => True ∧ smC md y (.inr (.inr (some (t, c))) :: as') m (fun v m' => match v with
        | some w => K n ls (w :: s) m'
        | none => K n ls s m')
      | true => False)
    | 0, as => True ∧ smC md y as m (fun v m' => match v with
        | some w => K n ls (w :: s) m'
        | none => K n ls s m')
    | _, _ => False))
def sRet (i : Nat) (st : List SV) (Q : Option SV → Mem → Prop) (m : Mem) : Prop := match st with
  | [.inl x] => (match mR i with
    | some .int => True ∧ Q (some (vI x)) m
    | some .boolean => (x = 0 ∨ x = 1) ∧ Q (some (vI x)) m
    | some .byte => x.toInt8.toInt32 = x ∧ Q (some (vI x)) m
    | some .char => (x.toUInt32 % 65536).toInt32 = x ∧ Q (some (vI x)) m
    | _ => False)
  | _ => False
def st1 (md : Bool) (i : Nat) (e : Ent) (ls : List (Option SV)) (st : List SV) (m : Mem) (Q : Option SV → Mem → Prop) (K : Kt) : Prop := match e with
  | (_, ins, n, r1, r2, r3, _, c, cl, ts) => match ins with
    | .aconst_null => K n ls (vR none :: st) m
    | .aload j => sLoad (ldL ls j) K n ls st m 2
    | .aload_n j => sLoad (ldL ls j.val) K n ls st m 2
    | .iload j => sLoad (ldL ls j) K n ls st m 0
    | .iload_n j => sLoad (ldL ls j.val) K n ls st m 0
    | .lload j => sLoad (ldL ls j) K n ls st m 1
    | .lload_n j => sLoad (ldL ls j.val) K n ls st m 1
    | .astore j => sStore st K n ls m 2 j
    | .astore_n j => sStore st K n ls m 2 j.val
    | .istore j => sStore st K n ls m 0 j
    | .istore_n j => sStore st K n ls m 0 j.val
    | .lstore j => sStore st K n ls m 1 j
    | .lstore_n j => sStore st K n ls m 1 j.val
    | .iconst _ => K n ls (vI c :: st) m
    | .bipush _ => K n ls (vI c :: st) m
    | .sipush _ => K n ls (vI c :: st) m
    | .lconst _ => K n ls (vL cl :: st) m
    | .ldc2_w _ => K n ls (vL cl :: st) m
    | .ldc _ => (match r1 with
      | 0 => K n ls (vI c :: st) m
      | _ => K n ls (vR (some (61, r2)) :: st) m)
    | .ldc_w _ => (match r1 with
      | 0 => K n ls (vI c :: st) m
      | _ => K n ls (vR (some (61, r2)) :: st) m)
    | .dup => sDup st K n ls m
    | .dup2 => sDup2 st K n ls m
    | .dup_x1 => sDupX1 st K n ls m
    | .pop => sPop st K n ls m
    | .iadd => (match st with
      | .inl y :: .inl x :: s => K n ls (vI (x + y) :: s) m
      | _ => False)
    | .isub => (match st with
      | .inl y :: .inl x :: s => K n ls (vI (x - y) :: s) m
      | _ => False)
    | .imul => (match st with
      | .inl y :: .inl x :: s => K n ls (vI (x * y) :: s) m
      | _ => False)
    | .iand => (match st with
      | .inl y :: .inl x :: s => K n ls (vI (x &&& y) :: s) m
      | _ => False)
    | .ixor => (match st with
      | .inl y :: .inl x :: s => K n ls (vI (x ^^^ y) :: s) m
      | _ => False)
    | .ishr => (match st with
      | .inl y :: .inl x :: s => K n ls (vI (x >>> (y &&& 31)) :: s) m
      | _ => False)
    | .ishl => (match st with
      | .inl y :: .inl x :: s => K n ls (vI (x <<< (y &&& 31)) :: s) m
      | _ => False)
    | .iushr => (match st with
      | .inl y :: .inl x :: s => K n ls (vI ((x.toUInt32 >>> (y.toUInt32 &&& Int32.toUInt32 31)).toInt32) :: s) m
      | _ => False)
    | .idiv => (match st with
      | .inl y :: .inl x :: s => ¬ y = 0 ∧ K n ls (vI (x / y) :: s) m
      | _ => False)
    | .irem => (match st with
      | .inl y :: .inl x :: s => ¬ y = 0 ∧ K n ls (vI (x - x / y * y) :: s) m
      | _ => False)
    | .ineg => (match st with
      | .inl x :: s => K n ls (vI (-x) :: s) m
      | _ => False)
    | .i2b => (match st with
      | .inl x :: s => K n ls (vI (x.toInt8.toInt32) :: s) m
      | _ => False)
    | .i2c => (match st with
      | .inl x :: s => K n ls (vI ((x.toUInt32 % 65536).toInt32) :: s) m
      | _ => False)
    | .i2l => (match st with
      | .inl x :: s => K n ls (vL x.toInt64 :: s) m
      | _ => False)
    | .l2i => (match st with
      | .inr (.inl x) :: s => K n ls (vI x.toInt32 :: s) m
      | _ => False)
    | .ladd => (match st with
      | .inr (.inl y) :: .inr (.inl x) :: s => K n ls (vL (x + y) :: s) m
      | _ => False)
    | .lmul => (match st with
      | .inr (.inl y) :: .inr (.inl x) :: s => K n ls (vL (x * y) :: s) m
      | _ => False)
    | .ldiv => (match st with
      | .inr (.inl y) :: .inr (.inl x) :: s => ¬ y = 0 ∧ K n ls (vL (x / y) :: s) m
      | _ => False)
    | .lcmp => (match st with
      | .inr (.inl y) :: .inr (.inl x) :: s => K n ls (vI (lg_cmp x y) :: s) m
      | _ => False)
    | .iinc j _ => (match ldL ls j with
      | some (.inl x) => stL ls j (vI (x + c)) (fun l' => K n l' st m)
      | _ => False)
    | .goto _ => K r1 ls st m
    | .ifCond cc _ => sIf cc st K r1 n ls m
    | .if_icmp cc _ => sCmp cc st K r1 n ls m
    | .ifnull _ => sNull true st K r1 n ls m
    | .ifnonnull _ => sNull false st K r1 n ls m
    | .tableswitch _ lo hi _ => (match st with
      | .inl x :: s => tsw x ts (fun p => K p ls s m) (x.toInt < lo ∨ hi < x.toInt → K r1 ls s m)
      | _ => False)
    | .getfield _ => sGet md st K n ls m r1 r2 r3
    | .putfield _ => sPut md st K n ls m r1 r2 r3
    | .getstatic _ => sStat r1 r2 st K n ls m
    | .arraylength => sLen st K n ls m
    | .iaload => sAld 1 st K n ls m
    | .baload => sAld 2 st K n ls m
    | .iastore => sAst 1 st K n ls m
    | .bastore => sAst 2 st K n ls m
    | .aaload => sAald md st K n ls m
    | .aastore => sAast md st K n ls m
    | .new _ => sNew md r1 r2 st K n ls m
    | .newarray .int => sNewa md 1 r2 st K n ls m
    | .newarray .byte => sNewa md 2 r2 st K n ls m
    | .anewarray _ => sNewa md 3 r2 st K n ls m
    | .invokestatic _ => sCall md i 0 r1 r2 st K n ls m
    | .invokespecial _ => sCall md i 1 r1 r2 st K n ls m
    | .invokevirtual _ => sCall md i 2 r1 r2 st K n ls m
    | .ireturn => sRet i st Q m
    | .lreturn => (match st, mR i with
      | [.inr (.inl x)], some .long => True ∧ Q (some (vL x)) m
      | _, _ => False)
    | .areturn => (match st, mR i with
      | [.inr (.inr r)], some (.object _) => True ∧ Q (some (vR r)) m
      | [.inr (.inr r)], some (.array _) => True ∧ Q (some (vR r)) m
      | _, _ => False)
    | .return_ => (match st, mR i with
      | [], none => True ∧ Q none m
      | _, _ => False)
    | _ => False
/-- the walk: stops at the places of 'stops' and asks there for the judgement itself -/
def wp (md : Bool) (i : Nat) (cc : List (Nat × List Ent)) (stops : List Nat) (Q : Option SV → Mem → Prop) : Nat → Nat → List (Option SV) → List SV → Mem → Prop
  | 0, _, _, _, _ => False
  | f + 1, pc, ls, st, m => match stops.elem pc with
    | true => True ∧ smE md i pc ls st m Q
    | false => (match fnd2 cc pc with
      | some e => st1 md i e ls st m Q (fun p' l' s' m' => wp md i cc stops Q f p' l' s' m')
      | none => False)
/-- its first step, where the place itself is a stop -/
def wp1 (md : Bool) (i : Nat) (cc : List (Nat × List Ent)) (stops : List Nat) (Q : Option SV → Mem → Prop) (f pc : Nat) (ls : List (Option SV)) (st : List SV) (m : Mem) : Prop := match fnd2 cc pc with
  | some e => st1 md i e ls st m Q (fun p' l' s' m' => wp md i cc stops Q f p' l' s' m')
  | none => False
