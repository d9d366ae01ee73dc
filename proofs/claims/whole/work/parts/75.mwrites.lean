/-! where a note ends; THE MODEL: writes -/
def sumL : List Pl → Int
  | [] => 0
  | x :: q => x.2.2 + sumL q
theorem sumL_app : ∀ q r : List Pl, sumL (q ++ r) = sumL q + sumL r
  | [], r => by simp [sumL]
  | x :: q, r => by simp only [List.cons_append, sumL, sumL_app q r]; omega
theorem apN_cur (i : Nat) : ∀ (q : List Pl) (s : WS), (apN i q s).2.2 = s.2.2 + sumL q
  | [], s => by simp [apN, sumL]
  | x :: q, s => by rw [apN, apN_cur i q, sumL]; show s.2.2 + x.2.2 + sumL q = _; omega
theorem sum_map (P : Int → Int × Int) (e : Int) : ∀ l : List Int, sumL (l.map (fun k => (k, P k, e))) = l.length * e
  | [] => by simp [sumL]
  | x :: l => by
    simp only [List.map_cons, sumL, sum_map P e l, List.length_cons]
    rw [Int.natCast_add, Int.add_mul]; omega
theorem sum_sh (P : Int → Int × Int) (c : Nat) (e lf : Int) : sumL (shQ P c e lf) = lf := by
  unfold shQ
  rw [sumL_app, sum_map]
  simp only [sumL]; omega
theorem sum_alt (P : Int → Int × Int) (T : Int) : ∀ (n : Nat) (k : Int), sumL (altQ P T k n) = n * T
  | 0, _ => by simp [altQ, sumL]
  | n + 1, k => by
    rw [altQ, sumL, sum_alt P T n, Int.natCast_add, Int.add_mul]
    show T + _ = _
    omega
theorem sum_tr (P : Int → Int × Int) (T : Int) (bu : Bool) (n t : Int) (hn : 1 ≤ n) : sumL (trQ P T bu n t) = t := by
  unfold trQ
  rw [sumL_app, sum_alt]
  simp only [sumL]
  rw [show (((n - 1).toNat : Nat) : Int) = n - 1 by omega]; omega
theorem sum_gr (g : Nat → Int × Int) (l : Int) : ∀ (n j : Nat), sumL (grQ g l j n) = n * l
  | 0, _ => by simp [grQ, sumL]
  | n + 1, j => by
    rw [grQ, sumL, sum_gr g l n, Int.natCast_add, Int.add_mul]
    show l + _ = _
    omega
theorem sum_ts {P : Int → Int × Int} {T lf : Int} {bu af : Bool} (hT : 1 ≤ T) (h : (tsS P T lf bu af).1 = 1) : sumL (tsS P T lf bu af).2.1 = lf := by
  unfold tsS at h ⊢
  split
  · rename_i q
    have := fitN_rng (T := T) (t := lf - 2 * T) (bu := bu) hT
    simp only
    rw [sumL_app, sum_tr _ _ _ _ _ (by omega)]
    simp only [sumL]; omega
  · rename_i q
    rw [if_neg q] at h
    split
    · rename_i q2
      have := fitN_rng (T := T) (t := lf) (bu := bu) hT
      simp only
      rw [sum_tr _ _ _ _ _ (by omega)]
    · rename_i q2
      rw [if_neg q2] at h
      simp at h
theorem sum_pr {P : Int → Int × Int} {T lf : Int} {bu : Bool} (h : (prS P T lf bu).1 ≠ 3) : sumL (prS P T lf bu).2 = lf := by
  unfold prS at h ⊢
  split
  · rename_i q
    rw [if_pos q] at h
    split
    · exact sum_sh _ _ _ _
    · rename_i q2; rw [if_neg q2] at h; simp at h
  · rename_i q
    rw [if_neg q] at h
    split
    · exact sum_sh _ _ _ _
    · rename_i q2
      rw [if_neg q2] at h
      split
      · exact sum_sh _ _ _ _
      · rename_i q3; rw [if_neg q3] at h; simp at h
theorem sum_tu {P : Int → Int × Int} {T lf : Int} {q4 : Bool} {c : Nat} (h : (tuS P T lf q4 c).1 ≠ 3) : sumL (tuS P T lf q4 c).2 = lf := by
  unfold tuS at h ⊢
  split
  · exact sum_sh _ _ _ _
  · rename_i q
    rw [if_neg q] at h
    split
    · rename_i q2; rw [if_pos q2] at h; simp at h
    · exact sum_sh _ _ _ _
theorem less_ne {v : Int} (h : lessN v ≠ 3) : v ≠ 3 := by
  intro e; apply h; unfold lessN; rw [if_pos e]
theorem sum_bod {P : Int → Int × Int} {T lf bd : Int} {bu af sty q4 q8 : Bool} (hT : 1 ≤ T) (h0 : (bodS P T lf bu af sty q4 q8 bd).1 ≠ 0) (h3 : (bodS P T lf bu af sty q4 q8 bd).1 ≠ 3) : sumL (bodS P T lf bu af sty q4 q8 bd).2.1 = lf := by
  unfold bodS at h0 h3 ⊢
  split
  · rename_i e
    rw [if_pos e] at h0 h3
    split
    · rename_i q; exact sum_ts hT q
    · rename_i q; rw [if_neg q] at h3; exact sum_pr (less_ne h3)
  rename_i e; rw [if_neg e] at h0 h3; clear e
  split
  · rename_i e
    rw [if_pos e] at h0 h3
    split
    · exact sum_sh _ _ _ _
    · rename_i q; rw [if_neg q] at h3; simp at h3
  rename_i e; rw [if_neg e] at h0 h3; clear e
  split
  · rename_i e
    rw [if_pos e] at h0 h3
    exact sum_pr h3
  rename_i e; rw [if_neg e] at h0 h3; clear e
  split
  · rename_i e
    rw [if_pos e] at h0 h3
    exact sum_tu h3
  rename_i e; rw [if_neg e] at h0 h3; clear e
  split
  · rename_i e
    rw [if_pos e] at h0 h3
    split
    · rename_i q; rw [if_pos q] at h3; exact sum_tu (less_ne h3)
    · simp only [sumL]; rw [sum_sh]; omega
  rename_i e; rw [if_neg e] at h0 h3; clear e
  split
  · rename_i e
    rw [if_pos e] at h0 h3
    exact sum_tu h3
  rename_i e; rw [if_neg e] at h0 h3; clear e
  split
  · rename_i e
    rw [if_pos e] at h0 h3
    split
    · exact sum_sh _ _ _ _
    · rename_i q
      rw [if_neg q] at h3
      split
      · exact sum_sh _ _ _ _
      · rename_i q2; rw [if_neg q2] at h3; simp at h3
  rename_i e; rw [if_neg e] at h0 h3; clear e
  split
  · rename_i e
    rw [if_pos e] at h0 h3
    split
    · rename_i q
      have ht : (tsS P T (lf - 2 * T) sty af).1 = 1 := tsS_fit q
      simp only [sumL]
      rw [sum_ts hT ht]; omega
    · rename_i q
      rw [if_neg q] at h3
      split
      · rename_i q2; exact sum_ts hT q2
      · rename_i q2; rw [if_neg q2] at h3; exact sum_pr (less_ne h3)
  · rename_i e; rw [if_neg e] at h0; simp at h0
theorem wN_cur {tm : Nat → Int} {pc : Int} {f : NF} {nx : NX} {i : Nat} {s : WS} (hf : NOK f) (hT : 8 ≤ wT tm pc f ∧ wT tm pc f ≤ 2000) : (wN tm pc f nx i s).1.2.2 = s.2.2 + f 5 := by
  unfold wN
  split
  · have hp : (wP tm pc f i s).2.1.2.2 = s.2.2 + (wP tm pc f i s).2.2.1 := by
      have h11 := hf.2.2.2.2.2.2.2.2.1
      unfold wP preS
      split
      · show s.2.2 = s.2.2 + 0; omega
      split
      · split
        · show s.2.2 = s.2.2 + 0; omega
        · rw [apN_cur]; simp [sumL]
      split
      · split
        · show s.2.2 = s.2.2 + 0; omega
        · split
          · rw [apN_cur]; simp [sumL]
          · rw [apN_cur]; simp [sumL]; omega
      split
      · rw [apN_cur, sum_gr]
        show s.2.2 - _ + _ = s.2.2 + 0
        rw [show (((f 11).toNat : Nat) : Int) = f 11 by omega]; omega
      · rw [apN_cur, sum_gr]
    have hb : bOK (wB tm pc f nx (wP tm pc f i s).2.1 (f 5 - (wP tm pc f i s).2.2.1)) := bodS_ok (by omega)
    have hc : (wC i (Pk (tm 3) f 0) (f 5 - (wP tm pc f i s).2.2.1) (wB tm pc f nx (wP tm pc f i s).2.1 (f 5 - (wP tm pc f i s).2.2.1)) (wP tm pc f i s).2.1).2.2 = s.2.2 + f 5 := by
      unfold wC
      split
      · rename_i q
        rcases hb.2 with ⟨z, _⟩ | ⟨_, z⟩
        · omega
        · rw [z]; show (wP tm pc f i s).2.1.2.2 + _ = _; omega
      · rename_i q
        rw [apN_cur, hp]
        have hs : sumL (wB tm pc f nx (wP tm pc f i s).2.1 (f 5 - (wP tm pc f i s).2.2.1)).2.1 = f 5 - (wP tm pc f i s).2.2.1 := sum_bod (by omega) (fun z => q (Or.inl z)) (fun z => q (Or.inr z))
        rw [hs]; omega
    show (behS i (wT tm pc f) (f 12) nx _ _).2.2.2 = _
    unfold behS
    split
    · exact hc
    split
    · split
      · exact hc
      · split
        · exact hc
        · show (shN _ _).2.2 + _ = _
          unfold shN
          simp only
          omega
    · exact hc
  · rfl
/-- begins and ends of the notes -/
def BOK (D : Dt) : Prop := (0 < D.1 → D.2.1 0 4 = 0) ∧ (∀ i, i + 1 < D.1 → D.2.1 (i + 1) 4 = D.2.1 i 4 + D.2.1 i 5) ∧ (∀ i, i + 1 = D.1 → D.2.2.2.2 = D.2.1 i 4 + D.2.1 i 5) ∧ (D.1 = 0 → D.2.2.2.2 = 0)
theorem wr_cur {tm : Nat → Int} {pc : Int} {D : Dt} (ht : tmOK tm) (hp : 0 ≤ pc ∧ pc ≤ 400) (hD : DOK D) (hB : BOK D) : ∀ n, n < D.1 → (wr tm pc D n).2.2 = D.2.1 n 4
  | 0, h => (hB.1 h).symm
  | n + 1, h => by
    have hf := hD.2.1 n (by omega)
    rw [hB.2.1 n h, ← wr_cur ht hp hD hB n (by omega)]
    exact wN_cur hf (wT_rng ht hf hp)
theorem wr_end {tm : Nat → Int} {pc : Int} {D : Dt} (ht : tmOK tm) (hp : 0 ≤ pc ∧ pc ≤ 400) (hD : DOK D) (hB : BOK D) : (wr tm pc D D.1).2.2 = D.2.2.2.2 := by
  cases hn : D.1 with
  | zero => rw [hB.2.2.2 hn]; rfl
  | succ n =>
    have hf := hD.2.1 n (by omega)
    rw [hB.2.2.1 n hn.symm, ← wr_cur ht hp hD hB n (by omega)]
    exact wN_cur hf (wT_rng ht hf hp)
