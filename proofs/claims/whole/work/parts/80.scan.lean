/-! TOKENS: a tape tp of n bytes; a token is (sort, place, value, next) -/
abbrev TK := Int × Nat × Int × Nat
def skF (tp : Nat → Int) (n : Nat) : Nat → Nat → Nat
  | 0, p => p
  | f + 1, p => if p < n ∧ tp p = 32 then skF tp n f (p + 1) else p
def wdF (tp : Nat → Int) (n : Nat) : Nat → Nat → Nat
  | 0, p => p
  | f + 1, p => if p < n ∧ 97 ≤ tp p ∧ tp p ≤ 122 then wdF tp n f (p + 1) else p
def nmF (tp : Nat → Int) (n : Nat) : Nat → Nat → Int → Int × Nat
  | 0, p, v => (v, p)
  | f + 1, p, v => if p < n ∧ 48 ≤ tp p ∧ tp p ≤ 57 then nmF tp n f (p + 1) (if v < 1000 then 10 * v + tp p - 48 else v) else (v, p)
def tkAt (tp : Nat → Int) (n q : Nat) : TK :=
  if n ≤ q then (0, q, 0, q) else if 97 ≤ tp q ∧ tp q ≤ 122 then (1, q, 0, wdF tp n 800 q) else if 48 ≤ tp q ∧ tp q ≤ 57 then (2, q, nmF tp n 800 q 0) else (3, q, tp q, q + 1)
def scan (tp : Nat → Int) (n p : Nat) : TK := tkAt tp n (skF tp n 800 p)
theorem skF_rng (tp : Nat → Int) (n : Nat) : ∀ (f p : Nat), p ≤ n → p ≤ skF tp n f p ∧ skF tp n f p ≤ n
  | 0, p, h => ⟨Nat.le_refl _, h⟩
  | f + 1, p, h => by
    unfold skF; split
    · have := skF_rng tp n f (p + 1) (by omega); omega
    · omega
theorem wdF_rng (tp : Nat → Int) (n : Nat) : ∀ (f p : Nat), p ≤ n → (p ≤ wdF tp n f p ∧ wdF tp n f p ≤ n) ∧ ∀ k, p ≤ k → k < wdF tp n f p → 97 ≤ tp k ∧ tp k ≤ 122
  | 0, p, h => ⟨⟨Nat.le_refl _, h⟩, fun k h1 h2 => by simp only [wdF] at h2; omega⟩
  | f + 1, p, h => by
    unfold wdF; split
    · rename_i q
      have ih := wdF_rng tp n f (p + 1) (by omega)
      refine ⟨by omega, fun k h1 h2 => ?_⟩
      by_cases e : k = p
      · subst e; exact q.2
      · exact ih.2 k (by omega) h2
    · exact ⟨by omega, fun k h1 h2 => by omega⟩
theorem nmF_rng (tp : Nat → Int) (n : Nat) : ∀ (f p : Nat) (v : Int), p ≤ n → 0 ≤ v ∧ v ≤ 9999 → (p ≤ (nmF tp n f p v).2 ∧ (nmF tp n f p v).2 ≤ n) ∧ 0 ≤ (nmF tp n f p v).1 ∧ (nmF tp n f p v).1 ≤ 9999
  | 0, p, v, h, hv => ⟨⟨Nat.le_refl _, h⟩, hv⟩
  | f + 1, p, v, h, hv => by
    unfold nmF; split
    · have ih := nmF_rng tp n f (p + 1) (if v < 1000 then 10 * v + tp p - 48 else v) (by omega) (by split <;> omega)
      omega
    · exact ⟨by omega, hv⟩
/-- a token of this tape -/
def TOK (tp : Nat → Int) (n : Nat) (t : TK) : Prop :=
  (t.1 = 0 ∨ t.1 = 1 ∨ t.1 = 2 ∨ t.1 = 3) ∧ (t.2.1 ≤ t.2.2.2 ∧ t.2.2.2 ≤ n) ∧ (0 ≤ t.2.2.1 ∧ t.2.2.1 ≤ 9999) ∧ (t.1 ≠ 0 → t.2.1 < t.2.2.2) ∧ (t.1 = 1 → ∀ k, t.2.1 ≤ k → k < t.2.2.2 → 97 ≤ tp k ∧ tp k ≤ 122)
def TPOK (tp : Nat → Int) : Prop := ∀ k, k < 800 → 0 ≤ tp k ∧ tp k ≤ 255
theorem wdF_step (tp : Nat → Int) (n p : Nat) (h : p < n) (h1 : 97 ≤ tp p ∧ tp p ≤ 122) : wdF tp n 800 p = wdF tp n 799 (p + 1) := by
  show (if p < n ∧ 97 ≤ tp p ∧ tp p ≤ 122 then wdF tp n 799 (p + 1) else p) = _
  rw [if_pos ⟨h, h1⟩]
theorem nmF_step (tp : Nat → Int) (n p : Nat) (v : Int) (h : p < n) (h1 : 48 ≤ tp p ∧ tp p ≤ 57) : nmF tp n 800 p v = nmF tp n 799 (p + 1) (if v < 1000 then 10 * v + tp p - 48 else v) := by
  show (if p < n ∧ 48 ≤ tp p ∧ tp p ≤ 57 then nmF tp n 799 (p + 1) (if v < 1000 then 10 * v + tp p - 48 else v) else (v, p)) = _
  rw [if_pos ⟨h, h1⟩]
theorem scan_ok {tp : Nat → Int} {n p : Nat} (ht : TPOK tp) (hn : n ≤ 800) (hp : p ≤ n) : TOK tp n (scan tp n p) ∧ p ≤ (scan tp n p).2.1 := by
  have hs := skF_rng tp n 800 p hp
  unfold scan
  generalize skF tp n 800 p = q at *
  unfold tkAt
  split
  · exact ⟨⟨Or.inl rfl, ⟨Nat.le_refl _, hs.2⟩, ⟨by show (0:Int) ≤ 0; omega, by show (0:Int) ≤ 9999; omega⟩, fun z => absurd rfl z, fun z => absurd z (by simp)⟩, hs.1⟩
  rename_i h0
  split
  · rename_i h1
    have hw := wdF_rng tp n 799 (q + 1) (by omega)
    have e := wdF_step tp n q (by omega) h1
    have hw2 := wdF_rng tp n 800 q (by omega)
    rw [← e] at hw
    exact ⟨⟨Or.inr (Or.inl rfl), hw2.1, ⟨by show (0:Int) ≤ 0; omega, by show (0:Int) ≤ 9999; omega⟩, fun _ => by show q < wdF tp n 800 q; omega, fun _ => hw2.2⟩, hs.1⟩
  split
  · rename_i h1
    have e := nmF_step tp n q 0 (by omega) h1
    have hw := nmF_rng tp n 799 (q + 1) (if (0 : Int) < 1000 then 10 * 0 + tp q - 48 else 0) (by omega) (by rw [if_pos (by decide)]; omega)
    rw [← e] at hw
    refine ⟨⟨Or.inr (Or.inr (Or.inl rfl)), ?_, ?_, fun _ => ?_, fun z => absurd z (by simp)⟩, hs.1⟩
    · show q ≤ (nmF tp n 800 q 0).2 ∧ (nmF tp n 800 q 0).2 ≤ n; omega
    · show 0 ≤ (nmF tp n 800 q 0).1 ∧ (nmF tp n 800 q 0).1 ≤ 9999; omega
    · show q < (nmF tp n 800 q 0).2; omega
  · have := ht q (by omega)
    exact ⟨⟨Or.inr (Or.inr (Or.inr rfl)), ⟨by show q ≤ q + 1; omega, by show q + 1 ≤ n; omega⟩, ⟨by show 0 ≤ tp q; omega, by show tp q ≤ 9999; omega⟩, fun _ => by show q < q + 1; omega, fun z => absurd z (by simp)⟩, hs.1⟩
