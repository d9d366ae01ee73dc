/-! EVERY TONE is its step's own, or a half above or below; a tone's time -/
def AL (p : Int × Int) : Prop := natN p.2 - 1 ≤ p.1 ∧ p.1 ≤ natN p.2 + 1
theorem bs_step : ∀ k : Nat, k < 6 → bsN (k : Int) + 1 ≤ bsN ((k : Int) + 1) ∧ bsN ((k : Int) + 1) ≤ bsN (k : Int) + 2 := by decide
theorem natN_step (s : Int) : natN s + 1 ≤ natN (s + 1) ∧ natN (s + 1) ≤ natN s + 2 := by
  have h := m7 s
  unfold natN
  by_cases h6 : s % 7 = 6
  · have e1 : (s + 1) % 7 = 0 := by omega
    have e2 : (s + 1) / 7 = s / 7 + 1 := by omega
    rw [e1, e2, h6]
    have b6 : bsN 6 = 11 := rfl
    have b0 : bsN 0 = 0 := rfl
    rw [b6, b0]
    omega
  · have e1 : (s + 1) % 7 = s % 7 + 1 := by omega
    have e2 : (s + 1) / 7 = s / 7 := by omega
    rw [e1, e2]
    have := bs_step (s % 7).toNat (by omega)
    rw [Int.toNat_of_nonneg h.1] at this
    omega
theorem byN_AL {s sg key : Int} (hs : -1 ≤ sg ∧ sg ≤ 2) : natN s - 1 ≤ byN s sg key ∧ byN s sg key ≤ natN s + 1 := by
  have := altN_rng key (s % 7)
  unfold byN
  split <;> omega
theorem Pk_AL {hold : Int} {f : NF} (h : NOK f) (h1 : f 0 = 1) (k : Int) : AL (Pk hold f k) := by
  have hsg := (h.2.2.2.2.2.2.2.2.2.2.2 h1).2.1
  have ht := (h.2.2.2.2.2.2.2.2.2.2.2 h1).1
  have t1 := toldN_rng (hold := hold) hsg.1 hsg.2.2.1
  have t2 := toldN_rng (hold := hold) hsg.2.1 hsg.2.2.2.1
  have t3 := toldN_rng (hold := hold) (own := 2) (by decide) hsg.2.2.2.2
  have b1 := byN_AL (s := nStep f + 1) (key := f 8) t1
  have b2 := byN_AL (s := nStep f - 1) (key := f 8) t2
  have b3 := byN_AL (s := nStep f - 2) (key := f 8) t3
  have s1 := natN_step (nStep f)
  have s2 := natN_step (nStep f - 1)
  have s3 := natN_step (nStep f - 2)
  rw [show nStep f - 1 + 1 = nStep f by omega] at s2
  rw [show nStep f - 2 + 1 = nStep f - 1 by omega] at s3
  have h3 : natN (nStep f) - 1 ≤ f 3 ∧ f 3 ≤ natN (nStep f) + 1 := ⟨ht.2.2.1, ht.2.2.2⟩
  unfold Pk AL
  split
  · exact h3
  split
  · show natN (nStep f + 1) - 1 ≤ upN (f 3) (nStep f) (f 13) (f 15) (f 8) hold ∧ upN (f 3) (nStep f) (f 13) (f 15) (f 8) hold ≤ natN (nStep f + 1) + 1
    unfold upN
    omega
  split
  · show natN (nStep f - 1) - 1 ≤ dnN (f 3) (nStep f) (f 14) (f 16) (f 8) hold ∧ dnN (f 3) (nStep f) (f 14) (f 16) (f 8) hold ≤ natN (nStep f - 1) + 1
    unfold dnN
    omega
  · show natN (nStep f - 2) - 1 ≤ loN (dnN (f 3) (nStep f) (f 14) (f 16) (f 8) hold) (nStep f) (f 17) (f 8) hold ∧ loN (dnN (f 3) (nStep f) (f 14) (f 16) (f 8) hold) (nStep f) (f 17) (f 8) hold ≤ natN (nStep f - 2) + 1
    unfold loN dnN
    omega
def LA (q : List Pl) : Prop := ∀ x ∈ q, AL x.2.1
theorem LA.nil : LA [] := fun x h => by cases h
theorem LA.cons {x : Pl} {q : List Pl} (h : AL x.2.1) (hq : LA q) : LA (x :: q) := fun y hy => by
  rcases List.mem_cons.mp hy with e | e
  · subst e; exact h
  · exact hq y e
theorem LA.app {q r : List Pl} (hq : LA q) (hr : LA r) : LA (q ++ r) := fun y hy => by
  rcases List.mem_append.mp hy with e | e
  · exact hq y e
  · exact hr y e
section LPS
variable {P : Int → Int × Int}
theorem shQ_p {c : Nat} {e lf : Int} (hP : ∀ k, AL (P k)) : LA (shQ P c e lf) := by
  unfold shQ
  refine LA.app (fun x hx => ?_) (LA.cons (hP 0) LA.nil)
  obtain ⟨k, _, rfl⟩ := List.mem_map.mp hx
  exact hP k
theorem altQ_p {T : Int} (hP : ∀ k, AL (P k)) : ∀ (n : Nat) (k : Int), LA (altQ P T k n)
  | 0, _ => LA.nil
  | n + 1, k => LA.cons (hP k) (altQ_p hP n (1 - k))
theorem trQ_p {T t n : Int} {bu : Bool} (hP : ∀ k, AL (P k)) : LA (trQ P T bu n t) := LA.app (altQ_p hP _ _) (LA.cons (hP 0) LA.nil)
theorem tsS_p {T lf : Int} {bu af : Bool} (hP : ∀ k, AL (P k)) : LA (tsS P T lf bu af).2.1 := by
  unfold tsS
  split
  · exact LA.app (trQ_p hP) (LA.cons (hP 2) (LA.cons (hP 0) LA.nil))
  split
  · exact trQ_p hP
  · exact LA.nil
theorem prS_p {T lf : Int} {bu : Bool} (hP : ∀ k, AL (P k)) : LA (prS P T lf bu).2 := by
  unfold prS
  split
  · split
    · exact shQ_p hP
    · exact LA.nil
  split
  · exact shQ_p hP
  split
  · exact shQ_p hP
  · exact LA.nil
theorem tuS_p {T lf : Int} {q4 : Bool} {c : Nat} (hP : ∀ k, AL (P k)) : LA (tuS P T lf q4 c).2 := by
  unfold tuS
  split
  · exact shQ_p hP
  split
  · exact LA.nil
  · exact shQ_p hP
theorem bodS_p {T lf bd : Int} {bu af sty q4 q8 : Bool} (hP : ∀ k, AL (P k)) : LA (bodS P T lf bu af sty q4 q8 bd).2.1 := by
  unfold bodS
  split
  · split
    · exact tsS_p hP
    · exact prS_p hP
  split
  · split
    · exact shQ_p hP
    · exact LA.nil
  split
  · exact prS_p hP
  split
  · exact tuS_p hP
  split
  · split
    · exact tuS_p hP
    · exact LA.cons (hP 0) (shQ_p hP)
  split
  · exact tuS_p hP
  split
  · split
    · exact shQ_p hP
    split
    · exact shQ_p hP
    · exact LA.nil
  split
  · split
    · exact LA.cons (hP 2) (LA.cons (hP 0) (tsS_p hP))
    split
    · exact tsS_p hP
    · exact prS_p hP
  · exact LA.nil
end LPS
theorem grQ_p {g : Nat → Int × Int} {l : Int} {m : Nat} (hg : ∀ j, j < m → AL (g j)) : ∀ (n j : Nat), j + n ≤ m → LA (grQ g l j n)
  | 0, _, _ => LA.nil
  | n + 1, j, h => LA.cons (hg j (by omega)) (grQ_p hg n (j + 1) (by omega))
/-- all tones -/
def TA (ts : List Tn) : Prop := ∀ t ∈ ts, AL (t.2.1, t.2.2.1)
theorem TA.pl {i : Nat} {k l : Int} {p : Int × Int} {s : WS} (h : TA s.1) (hp : AL p) : TA (plN i k p l s).1 := fun t ht => by
  rcases List.mem_cons.mp ht with e | e
  · subst e; exact hp
  · exact h t e
theorem TA.ap {i : Nat} : ∀ {q : List Pl} {s : WS}, TA s.1 → LA q → TA (apN i q s).1
  | [], _, h, _ => h
  | x :: q, s, h, hq => TA.ap (q := q) (h.pl (hq x List.mem_cons_self)) (fun y hy => hq y (List.mem_cons_of_mem _ hy))
theorem TA.sh {d : Int} {s : WS} (h : TA s.1) : TA (shN d s).1 := by
  obtain ⟨ts, b, c⟩ := s
  cases ts with
  | nil => exact h
  | cons u us =>
    intro t ht
    rcases List.mem_cons.mp ht with e | e
    · subst e; exact h u List.mem_cons_self
    · exact h t (List.mem_cons_of_mem _ e)
theorem preS_t {i : Nat} {P : Int → Int × Int} {g : Nat → Int × Int} {T L ah pf : Int} {qa : Bool} {s : WS} (hP : ∀ k, AL (P k)) (hp : 0 ≤ pf ∧ pf ≤ 6) (hg : ∀ j, j < (if pf = 5 then 1 else if pf = 6 then 0 else pf.toNat) → AL (g j)) (hs : TA s.1) : TA (preS i P g T L ah qa pf s).2.1.1 := by
  unfold preS
  split
  · exact hs
  split
  · rename_i h5
    split
    · exact hs
    · exact hs.ap (LA.cons (hg 0 (by rw [if_pos h5]; decide)) LA.nil)
  rename_i h5
  rw [if_neg h5] at hg
  split
  · split
    · exact hs
    split
    · exact hs.ap (LA.cons (hP 2) LA.nil)
    · exact hs.ap (LA.cons (hP 4) (LA.cons (hP 2) LA.nil))
  rename_i h6
  rw [if_neg h6] at hg
  split
  · exact hs.sh.ap (grQ_p hg _ _ (by omega))
  · refine hs.ap (grQ_p hg _ _ ?_)
    have := plK_le T L pf.toNat
    omega
theorem behS_t {i : Nat} {T bh : Int} {nx : NX} {ab : Bool} {s : WS} (hn : ∀ z, nx = some z → AL z.2) (hs : TA s.1) : TA (behS i T bh nx ab s).2.1 := by
  unfold behS
  split
  · exact hs
  split
  · split
    · exact hs
    · rename_i z
      split
      · exact hs
      · exact hs.sh.pl (hn z rfl)
  · exact hs
theorem nGr_AL {f : NF} (h : NOK f) (h1 : f 0 = 1) : ∀ j, j < ngr f → AL (nGr f j) := by
  intro j hj
  have := (h.2.2.2.2.2.2.2.2.2.2.2 h1).2.2 j hj
  exact ⟨this.2.2.1, this.2.2.2⟩
theorem nxD_AL {D : Dt} {i : Nat} (hD : DOK D) : ∀ z, nxD 0 D i = some z → AL z.2 := by
  intro z hz
  unfold nxD at hz
  split at hz
  · rename_i h
    injection hz with hz
    subst hz
    have := ((hD.2.1 (i + 1) h.1).2.2.2.2.2.2.2.2.2.2.2 h.2).1
    exact ⟨this.2.2.1, this.2.2.2⟩
  · cases hz
theorem wN_t {tm : Nat → Int} {pc : Int} {f : NF} {nx : NX} {i : Nat} {s : WS} (hf : NOK f) (hn : ∀ z, nx = some z → AL z.2) (hs : TA s.1) : TA (wN tm pc f nx i s).1.1 := by
  unfold wN
  split
  · rename_i h1
    have hP : ∀ k, AL (Pk (tm 3) f k) := Pk_AL hf h1
    have w1 : TA (wP tm pc f i s).2.1.1 := preS_t hP hf.2.2.2.2.2.2.2.2.1 (nGr_AL hf h1) hs
    refine behS_t hn ?_
    have hq : TA (apN i (wB tm pc f nx (wP tm pc f i s).2.1 (f 5 - (wP tm pc f i s).2.2.1)).2.1 (wP tm pc f i s).2.1).1 := w1.ap (bodS_p hP)
    unfold wC
    split
    · exact hq.pl (hP 0)
    · exact hq
  · exact hs
theorem wr_t {tm : Nat → Int} {pc : Int} {D : Dt} (hD : DOK D) : ∀ n, n ≤ D.1 → TA (wr tm pc D n).1
  | 0, _ => fun t h => by cases h
  | n + 1, h => wN_t (hD.2.1 n (by omega)) (nxD_AL hD) (wr_t hD n (by omega))
theorem SI.end6 {tp : Nat → Int} {td : Nat} {tm : Nat → Int} {D : Dt} (h : SI tp td tm D) : D.2.2.2.2 ≤ 933888 := by
  obtain ⟨be, s1, s2, s3, s4, s5, s6⟩ := h.2.2.2
  omega
