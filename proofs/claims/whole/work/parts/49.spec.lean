/-! WHAT A NOTE BECOMES -/
def nxD (c : Nat) (D : Dt) (i : Nat) : NX := if i + 1 < D.1 ∧ D.2.1 (i + 1) 0 = 1 then some (c, D.2.1 (i + 1) 3, nStep (D.2.1 (i + 1))) else none
def afB (P : Int → Int × Int) (bh af : Int) (nx : NX) : Bool := decide (bh = 1) || (decide (af = 1) && (match nx with | none => false | some z => decide (z.2.1 = (P 1).1)))
theorem afB_iff {P : Int → Int × Int} {bh af : Int} {nx : NX} : afB P bh af nx = true ↔ afP P bh af nx := by
  unfold afB afP
  cases nx with
  | none => simp
  | some z => simp
def wT (tm : Nat → Int) (pc : Int) (f : NF) : Int := tnN (tm 0) (tm 1) (f 9) pc
def wP (tm : Nat → Int) (pc : Int) (f : NF) (i : Nat) (s : WS) : Int × WS × Int × Int :=
  preS i (Pk (tm 3) f) (nGr f) (wT tm pc f) (f 5) (tm 2) (decide (qk (tm 0) (f 9) pc (apL (f 5)))) (f 11) s
def wB (tm : Nat → Int) (pc : Int) (f : NF) (nx : NX) (s : WS) (lf : Int) : Int × List Pl × Bool :=
  bodS (Pk (tm 3) f) (wT tm pc f) lf (decide (buP (Pk (tm 3) f) s (tm 6))) (afB (Pk (tm 3) f) (f 12) (tm 4) nx) (decide (tm 6 = 1)) (decide (qk (tm 0) (f 9) pc (lf / 4))) (decide (qk (tm 0) (f 9) pc (lf / 8))) (f 10)
def wC (i : Nat) (p : Int × Int) (lf : Int) (b : Int × List Pl × Bool) (s : WS) : WS := if b.1 = 0 ∨ b.1 = 3 then plN i 0 p lf (apN i b.2.1 s) else apN i b.2.1 s
def wN (tm : Nat → Int) (pc : Int) (f : NF) (nx : NX) (i : Nat) (s : WS) : WS × (Int × Int × Int) × Int × Int :=
  if f 0 = 1 then
    let r := wP tm pc f i s
    let lf := f 5 - r.2.2.1
    let b := wB tm pc f nx r.2.1 lf
    let e := behS i (wT tm pc f) (f 12) nx b.2.2 (wC i (Pk (tm 3) f 0) lf b r.2.1)
    (e.2, (r.1, b.1, e.1), r.2.2.1, r.2.2.2)
  else ((s.1, false, s.2.2 + f 5), (0, 0, 0), 0, 0)
def wr (tm : Nat → Int) (pc : Int) (D : Dt) : Nat → WS
  | 0 => ([], false, 0)
  | n + 1 => (wN tm pc (D.2.1 n) (nxD 0 D n) n (wr tm pc D n)).1
theorem wN_cell (c c' : Nat) (tm : Nat → Int) (pc : Int) (f : NF) (D : Dt) (i : Nat) (s : WS) : wN tm pc f (nxD c D i) i s = wN tm pc f (nxD c' D i) i s := by
  unfold wN wB nxD
  by_cases h : i + 1 < D.1 ∧ D.2.1 (i + 1) 0 = 1
  · rw [if_pos h, if_pos h]; rfl
  · rw [if_neg h, if_neg h]
theorem preS_ok {i : Nat} {P : Int → Int × Int} {g : Nat → Int × Int} {T L ah pf : Int} {qa : Bool} {s : WS} (hT : 8 ≤ T ∧ T ≤ 2000) (hL : 16 ≤ L ∧ L ≤ 1000000 ∧ L % 16 = 0) (hp : 0 ≤ pf ∧ pf ≤ 6) :
    (0 ≤ (preS i P g T L ah qa pf s).1 ∧ (preS i P g T L ah qa pf s).1 ≤ 3) ∧ (preS i P g T L ah qa pf s).2.1.1.length ≤ s.1.length + 4 ∧ 0 ≤ (preS i P g T L ah qa pf s).2.2.1 ∧ 8 ≤ L - (preS i P g T L ah qa pf s).2.2.1 := by
  unfold preS
  by_cases h0 : pf = 0
  · rw [if_pos h0]; simp only; omega
  rw [if_neg h0]
  by_cases h5 : pf = 5
  · rw [if_pos h5]
    cases qa with
    | true => simp only [if_true]; omega
    | false =>
      simp only [Bool.false_eq_true, if_false]
      have hr := apL_rng (L := L) (by omega)
      have : 8 ≤ L - apL L := by
        unfold apL
        split
        · rename_i h3
          have : L ≠ 16 := by intro e; rw [e] at h3; exact absurd h3 (by decide)
          omega
        · omega
      rw [apN_len]
      simp only [List.length_cons, List.length_nil]
      omega
  rw [if_neg h5]
  by_cases h6 : pf = 6
  · rw [if_pos h6]
    split
    · simp only; omega
    · split
      · rw [apN_len]; simp only [List.length_cons, List.length_nil]; omega
      · rw [apN_len]; simp only [List.length_cons, List.length_nil]; omega
  rw [if_neg h6]
  split
  · rw [apN_len, grQ_len, shN_len]; simp only; omega
  · have h1 := plK_le T L pf.toNat
    have h2 := plK_fit (T := T) (L := L) (by omega) pf.toNat
    have h3 : 2 * (plK T L pf.toNat : Int) * T = 2 * (plK T L pf.toNat * T) := by rw [Int.mul_assoc]
    have h4 : 0 ≤ (plK T L pf.toNat : Int) * T := Int.mul_nonneg (by omega) (by omega)
    rw [apN_len, grQ_len]
    refine ⟨?_, ?_, ?_, ?_⟩
    · simp only; split
      · omega
      · split <;> omega
    · omega
    · exact h4
    · simp only; omega
theorem shQ_len (P : Int → Int × Int) (c : Nat) (e lf : Int) : (shQ P c e lf).length = (shI c).length + 1 := by unfold shQ; simp
theorem trQ_len {P : Int → Int × Int} {T t : Int} {bu bu' : Bool} (hT : 1 ≤ T) (t' : Int) (h : fitN T t bu' ≠ 0) : (trQ P T bu (fitN T t bu') t').length ≤ 64 := by
  have := fitN_rng (t := t) (bu := bu') hT
  unfold trQ; rw [List.length_append, altQ_len]; simp only [List.length_cons, List.length_nil]; omega
theorem tsS_len {P : Int → Int × Int} {T lf : Int} {bu af : Bool} (hT : 1 ≤ T) : (tsS P T lf bu af).2.1.length ≤ 66 ∧ ((tsS P T lf bu af).1 = 1 → (tsS P T lf bu af).2.1 ≠ []) := by
  unfold tsS
  split
  · rename_i h
    have := trQ_len (P := P) (bu := bu) (T := T) hT (lf - 2 * T) h.2
    simp only [List.length_append, List.length_cons, List.length_nil]
    exact ⟨by omega, fun _ => by simp⟩
  · split
    · rename_i h
      have := trQ_len (P := P) (bu := bu) (T := T) hT lf h
      exact ⟨by simp only; omega, fun _ => by simp [trQ]⟩
    · simp
def bOK (b : Int × List Pl × Bool) : Prop := b.2.1.length ≤ 68 ∧ ((b.1 = 1 ∨ b.1 = 2) ∧ b.2.1 ≠ [] ∨ (b.1 = 0 ∨ b.1 = 3) ∧ b.2.1 = [])
theorem prS_ok (P : Int → Int × Int) (T lf : Int) (bu : Bool) : (prS P T lf bu).2.length ≤ 68 ∧ (((prS P T lf bu).1 = 1 ∨ (prS P T lf bu).1 = 2) ∧ (prS P T lf bu).2 ≠ [] ∨ (prS P T lf bu).1 = 3 ∧ (prS P T lf bu).2 = []) := by
  unfold prS
  split
  · split
    · exact ⟨by rw [shQ_len]; decide, Or.inl ⟨Or.inl rfl, by simp [shQ]⟩⟩
    · exact ⟨by decide, Or.inr ⟨rfl, rfl⟩⟩
  · split
    · exact ⟨by rw [shQ_len]; decide, Or.inl ⟨Or.inl rfl, by simp [shQ]⟩⟩
    · split
      · exact ⟨by rw [shQ_len]; decide, Or.inl ⟨Or.inr rfl, by simp [shQ]⟩⟩
      · exact ⟨by decide, Or.inr ⟨rfl, rfl⟩⟩
theorem tuS_ok (P : Int → Int × Int) (T lf : Int) (q4 : Bool) {c : Nat} (hc : c < 6) : (tuS P T lf q4 c).2.length ≤ 68 ∧ ((tuS P T lf q4 c).1 = 1 ∧ (tuS P T lf q4 c).2 ≠ [] ∨ (tuS P T lf q4 c).1 = 3 ∧ (tuS P T lf q4 c).2 = []) := by
  have := shI_n c hc
  unfold tuS
  split
  · exact ⟨by rw [shQ_len]; omega, Or.inl ⟨rfl, by simp [shQ]⟩⟩
  · split
    · exact ⟨by decide, Or.inr ⟨rfl, rfl⟩⟩
    · exact ⟨by rw [shQ_len]; omega, Or.inl ⟨rfl, by simp [shQ]⟩⟩
theorem lessN_12 {v : Int} (h : v = 1 ∨ v = 2) : lessN v = 2 := by unfold lessN; rw [if_neg (by omega)]
theorem bodS_ok {P : Int → Int × Int} {T lf bd : Int} {bu af sty q4 q8 : Bool} (hT : 1 ≤ T) : bOK (bodS P T lf bu af sty q4 q8 bd) := by
  have ht := tsS_len (P := P) (T := T) (lf := lf) (bu := bu) (af := af) hT
  have hp := prS_ok P T lf bu
  have h1 := tuS_ok P T lf q4 (c := 1) (by decide)
  have h2 := tuS_ok P T lf q4 (c := 2) (by decide)
  have hpl : bOK (lessN (prS P T lf bu).1, (prS P T lf bu).2, false) := by
    refine ⟨hp.1, ?_⟩
    rcases hp.2 with ⟨q, w⟩ | ⟨q, w⟩
    · exact Or.inl ⟨Or.inr (lessN_12 q), w⟩
    · exact Or.inr ⟨Or.inr (by rw [q]; rfl), w⟩
  unfold bodS
  split
  · split
    · rename_i h; exact ⟨by omega, Or.inl ⟨Or.inl h, ht.2 h⟩⟩
    · exact hpl
  · split
    · split
      · exact ⟨by rw [shQ_len]; decide, Or.inl ⟨Or.inl rfl, by simp [shQ]⟩⟩
      · exact ⟨by decide, Or.inr ⟨Or.inr rfl, rfl⟩⟩
    · split
      · refine ⟨hp.1, ?_⟩
        rcases hp.2 with ⟨q, w⟩ | ⟨q, w⟩
        · exact Or.inl ⟨q, w⟩
        · exact Or.inr ⟨Or.inr q, w⟩
      · split
        · refine ⟨h1.1, ?_⟩
          rcases h1.2 with ⟨q, w⟩ | ⟨q, w⟩
          · exact Or.inl ⟨Or.inl q, w⟩
          · exact Or.inr ⟨Or.inr q, w⟩
        · split
          · split
            · refine ⟨h1.1, ?_⟩
              rcases h1.2 with ⟨q, w⟩ | ⟨q, w⟩
              · exact Or.inl ⟨Or.inr (lessN_12 (Or.inl q)), w⟩
              · exact Or.inr ⟨Or.inr (by rw [q]; rfl), w⟩
            · exact ⟨by simp only [List.length_cons, shQ_len]; decide, Or.inl ⟨Or.inl rfl, by simp⟩⟩
          · split
            · refine ⟨h2.1, ?_⟩
              rcases h2.2 with ⟨q, w⟩ | ⟨q, w⟩
              · exact Or.inl ⟨Or.inl q, w⟩
              · exact Or.inr ⟨Or.inr q, w⟩
            · split
              · split
                · exact ⟨by rw [shQ_len]; decide, Or.inl ⟨Or.inl rfl, by simp [shQ]⟩⟩
                · split
                  · exact ⟨by rw [shQ_len]; decide, Or.inl ⟨Or.inr rfl, by simp [shQ]⟩⟩
                  · exact ⟨by decide, Or.inr ⟨Or.inr rfl, rfl⟩⟩
              · split
                · split
                  · have ht2 := tsS_len (P := P) (T := T) (lf := lf - 2 * T) (bu := sty) (af := af) hT
                    exact ⟨by simp only [List.length_cons]; omega, Or.inl ⟨Or.inl rfl, by simp⟩⟩
                  · split
                    · rename_i h; exact ⟨by simp only; omega, Or.inl ⟨Or.inr rfl, ht.2 h⟩⟩
                    · exact hpl
                · exact ⟨by decide, Or.inr ⟨Or.inl rfl, rfl⟩⟩
theorem apN_lk {i : Nat} : ∀ {q : List Pl} {s : WS}, q ≠ [] → (apN i q s).2.1 = true
  | [], _, h => absurd rfl h
  | [x], _, _ => rfl
  | x :: y :: q, s, _ => apN_lk (q := y :: q) (by simp)
theorem wC_ok {i : Nat} {p : Int × Int} {lf : Int} {b : Int × List Pl × Bool} {s : WS} (h : bOK b) : (wC i p lf b s).2.1 = true ∧ (wC i p lf b s).1.length ≤ s.1.length + 68 := by
  unfold wC
  rcases h.2 with ⟨q, w⟩ | ⟨q, w⟩
  · rw [if_neg (by omega)]; exact ⟨apN_lk w, by rw [apN_len]; exact Nat.add_le_add_left h.1 _⟩
  · rw [if_pos q]; exact ⟨rfl, by simp only [plN, List.length_cons]; rw [apN_len, w]; simp⟩
theorem behS_ok {i : Nat} {T bh : Int} {nx : NX} {ab : Bool} {s : WS} : (0 ≤ (behS i T bh nx ab s).1 ∧ (behS i T bh nx ab s).1 ≤ 3) ∧ (behS i T bh nx ab s).2.1.length ≤ s.1.length + 1 := by
  unfold behS
  split
  · cases ab <;> simp
  · split
    · cases nx with
      | none => simp
      | some z =>
        simp only
        split
        · simp
        · simp [plN, shN_len]
    · simp
theorem wN_len {tm : Nat → Int} {pc : Int} {f : NF} {nx : NX} {i : Nat} {s : WS} (h : NOK f) (hT : 8 ≤ wT tm pc f ∧ wT tm pc f ≤ 2000) : (wN tm pc f nx i s).1.1.length ≤ s.1.length + 73 := by
  unfold wN
  split
  · have h1 := preS_ok (i := i) (P := Pk (tm 3) f) (g := nGr f) (ah := tm 2) (qa := decide (qk (tm 0) (f 9) pc (apL (f 5)))) (s := s) hT h.2.2.1 h.2.2.2.2.2.2.2.2.1
    have h2 := wC_ok (i := i) (p := Pk (tm 3) f 0) (lf := f 5 - (wP tm pc f i s).2.2.1) (b := wB tm pc f nx (wP tm pc f i s).2.1 (f 5 - (wP tm pc f i s).2.2.1)) (s := (wP tm pc f i s).2.1) (bodS_ok (by omega))
    have h3 := behS_ok (i := i) (T := wT tm pc f) (bh := f 12) (nx := nx) (ab := (wB tm pc f nx (wP tm pc f i s).2.1 (f 5 - (wP tm pc f i s).2.2.1)).2.2) (s := wC i (Pk (tm 3) f 0) (f 5 - (wP tm pc f i s).2.2.1) (wB tm pc f nx (wP tm pc f i s).2.1 (f 5 - (wP tm pc f i s).2.2.1)) (wP tm pc f i s).2.1)
    have h1 := h1.2.1
    have h2 := h2.2
    have h3 := h3.2
    show (behS _ _ _ _ _ _).2.1.length ≤ _
    have h1' : (wP tm pc f i s).2.1.1.length ≤ s.1.length + 4 := h1
    omega
  · exact Nat.le_add_right _ _
