section
abbrev Rf := Nat × Nat
abbrev SV := Int32 ⊕ (Int64 ⊕ Option Rf)
abbrev vI (x : Int32) : SV := .inl x
abbrev vL (x : Int64) : SV := .inr (.inl x)
abbrev vR (r : Option Rf) : SV := .inr (.inr r)
abbrev Mem := (Nat → Nat → Nat → Int32) × (Nat → Nat → Nat → Option Rf) × (Nat → Nat) × Nat × Nat
def gI (m : Mem) (r i k : Nat) : Int32 := m.1 r i k
def gP (m : Mem) (r i k : Nat) : Option Rf := m.2.1 r i k
abbrev Ent := Nat × Instr × Nat × Nat × Nat
def smE (i pc : Nat) (ls : List (Option SV)) (st : List SV) (m : Mem) (Q : Option SV → Mem → Prop) : Prop := Q none m
def smC (y : Nat) (as : List SV) (m : Mem) (Q : Option SV → Mem → Prop) : Prop := Q none m
def jmp : List Ent → Nat → List Ent
  | [], _ => []
  | e :: r, t => match Nat.beq e.1 t with
    | true => e :: r
    | false => jmp r t
def stL : List (Option SV) → Nat → SV → (List (Option SV) → Prop) → Prop
  | [], _, _, _ => False
  | _ :: l, 0, v, k => k (some v :: l)
  | a :: l, n + 1, v, k => stL l n v (fun l' => k (a :: l'))
def ldL : List (Option SV) → Nat → Option SV
  | [], _ => none
  | a :: _, 0 => a
  | _ :: l, n + 1 => ldL l n
def st1 (C : List Ent) (e : Ent) (rest : List Ent) (ls : List (Option SV)) (st : List SV) (m : Mem) (Q : Option SV → Mem → Prop) (K : List Ent → List (Option SV) → List SV → Mem → Prop) : Prop :=
  match e with
  | (_, ins, _, r1, r2) =>
  match ins with
  | .aload_n n => match ldL ls n.val with
    | some (.inr (.inr r)) => K rest ls (vR r :: st) m
    | _ => False
  | .iload_n n => match ldL ls n.val with
    | some (.inl x) => K rest ls (vI x :: st) m
    | _ => False
  | .iload n => match ldL ls n with
    | some (.inl x) => K rest ls (vI x :: st) m
    | _ => False
  | .istore_n n => match st with
    | v :: s => stL ls n.val v (fun l' => K rest l' s m)
    | _ => False
  | .istore n => match st with
    | v :: s => stL ls n v (fun l' => K rest l' s m)
    | _ => False
  | .getfield _ => match st with
    | .inr (.inr (some (r, i))) :: s => K rest ls (vI (gI m r i r2) :: s) m
    | _ => False
  | .bipush n => K rest ls (vI (Int8.ofInt n).toInt32 :: st) m
  | .iconst n => K rest ls (vI (Int32.ofInt n) :: st) m
  | .ifCond .le _ => match st with
    | .inl x :: s => (x ≤ 0 → K (jmp C r1) ls s m) ∧ (¬ x ≤ 0 → K rest ls s m)
    | _ => False
  | .ifCond .eq _ => match st with
    | .inl x :: s => (x = 0 → K (jmp C r1) ls s m) ∧ (¬ x = 0 → K rest ls s m)
    | _ => False
  | .if_icmp .ne _ => match st with
    | .inl y :: .inl x :: s => (¬ x = y → K (jmp C r1) ls s m) ∧ (x = y → K rest ls s m)
    | _ => False
  | .if_icmp .eq _ => match st with
    | .inl y :: .inl x :: s => (x = y → K (jmp C r1) ls s m) ∧ (¬ x = y → K rest ls s m)
    | _ => False
  | .if_icmp .lt _ => match st with
    | .inl y :: .inl x :: s => (x < y → K (jmp C r1) ls s m) ∧ (¬ x < y → K rest ls s m)
    | _ => False
  | .goto _ => K (jmp C r1) ls st m
  | .isub => match st with
    | .inl y :: .inl x :: s => K rest ls (vI (x - y) :: s) m
    | _ => False
  | .irem => match st with
    | .inl y :: .inl x :: s => ¬ y = 0 ∧ K rest ls (vI (x - x / y * y) :: s) m
    | _ => False
  | .idiv => match st with
    | .inl y :: .inl x :: s => ¬ y = 0 ∧ K rest ls (vI (x / y) :: s) m
    | _ => False
  | .invokestatic _ => match st with
    | y :: x :: s => True ∧ smC r1 [x, y] m (fun v m' => match v with
      | some w => K rest ls (w :: s) m'
      | none => K rest ls s m')
    | _ => False
  | .ireturn => match st with
    | .inl x :: _ => True ∧ Q (some (vI x)) m
    | _ => False
  | _ => False
def wp (C : List Ent) (i : Nat) (stops : List Nat) : Nat → List Ent → List (Option SV) → List SV → Mem → (Option SV → Mem → Prop) → Prop
  | 0, _, _, _, _, _ => False
  | _ + 1, [], _, _, _, _ => False
  | f + 1, e :: rest, ls, st, m, Q => match stops.elem e.1 with
    | true => True ∧ smE i e.1 ls st m Q
    | false => st1 C e rest ls st m Q (fun c' l' s' m' => wp C i stops f c' l' s' m' Q)
def cd_t : List Ent := [(0, .aload_n 0, 1, 0, 0), (1, .getfield 52, 3, 0, 9), (4, .ifCond .le 21, 3, 25, 0), (7, .iload_n 1, 1, 0, 0), (8, .ifCond .le 17, 3, 25, 0), (11, .bipush 64, 2, 0, 0), (13, .iload_n 1, 1, 0, 0), (14, .aload_n 0, 1, 0, 0), (15, .getfield 52, 3, 0, 9), (18, .idiv, 1, 0, 0), (19, .invokestatic 271, 3, 77, 0), (22, .goto 4, 3, 26, 0), (25, .iconst 0, 1, 0, 0), (26, .istore_n 3, 1, 0, 0), (27, .iload_n 3, 1, 0, 0), (28, .iconst 2, 1, 0, 0), (29, .irem, 1, 0, 0), (30, .iconst 1, 1, 0, 0), (31, .if_icmp .ne 7, 3, 38, 0), (34, .iconst 1, 1, 0, 0), (35, .goto 4, 3, 39, 0), (38, .iconst 0, 1, 0, 0), (39, .iload_n 2, 1, 0, 0), (40, .if_icmp .eq 7, 3, 47, 0), (43, .iconst 1, 1, 0, 0), (44, .goto 4, 3, 48, 0), (47, .iconst 0, 1, 0, 0), (48, .istore 4, 2, 0, 0), (50, .iload 4, 2, 0, 0), (52, .ifCond .eq 9, 3, 61, 0), (55, .iload_n 3, 1, 0, 0), (56, .iconst 1, 1, 0, 0), (57, .isub, 1, 0, 0), (58, .goto 4, 3, 62, 0), (61, .iload_n 3, 1, 0, 0), (62, .istore 5, 2, 0, 0), (64, .iload 5, 2, 0, 0), (66, .iload_n 2, 1, 0, 0), (67, .ifCond .eq 7, 3, 74, 0), (70, .iconst 3, 1, 0, 0), (71, .goto 4, 3, 75, 0), (74, .iconst 4, 1, 0, 0), (75, .if_icmp .lt 8, 3, 83, 0), (78, .iload 5, 2, 0, 0), (80, .goto 4, 3, 84, 0), (83, .iconst 0, 1, 0, 0), (84, .ireturn, 1, 0, 0)]
theorem c_min (m : Mem) (x y : Int32) (K : Option SV → Mem → Prop) (h : K (some (vI (if x ≤ y then x else y))) m) : smC 77 [vI x, vI y] m K := sorry
theorem t1 (m : Mem) (x : Int32) (b : Int32) (hb : b = 0 ∨ b = 1) (Q : Option SV → Mem → Prop)
   (hQ : ∀ v, Q v m) (ht : ¬ gI m 12 0 9 ≤ 0) : wp cd_t 5 [] 100 cd_t [some (vR (some (12, 0))), some (vI x), some (vI b), none, none, none] [] m Q := by
  refine And.intro (fun h => absurd h ht) (fun h => ?_)
  refine And.intro (fun h1 => ?_) (fun h1 => ?_)
  · refine And.intro (by decide) ?_
    trace_state
    sorry
  · refine And.intro (fun h => ht (by rw [h]; decide)) ?_
    refine And.intro trivial ?_
    trace_state
    refine c_min _ _ _ _ ?_
    trace_state
    refine And.intro (by decide) ?_
    refine And.intro (fun h2 => ?_) (fun h2 => ?_)
    · refine And.intro (fun h3 => ?_) (fun h3 => ?_)
      · trace_state
        sorry
      · sorry
    · sorry
end
