/-! THE TONES: kinds, notes, times -/
def tAt : List Tn → Nat → Tn
  | [], _ => (0, 0, 0, 0, 0, 0)
  | t :: ts, k => if k = ts.length then t else tAt ts k
theorem tAt_mem : ∀ {ts : List Tn} {k : Nat}, k < ts.length → tAt ts k ∈ ts
  | [], k, h => by simp at h
  | t :: ts, k, h => by
    unfold tAt
    by_cases e : k = ts.length
    · rw [if_pos e]; exact List.mem_cons_self
    · rw [if_neg e]; exact List.mem_cons_of_mem _ (tAt_mem (by simp at h; omega))
theorem RV.at {m : Mem} {a1 a2 a3 a4 : Nat} : ∀ {ts : List Tn} {k : Nat}, RV m a1 a2 a3 a4 ts → k < ts.length → gI m 20 a1 k = iZ (pit (tAt ts k).2.1 (tAt ts k).2.2.1) ∧ gI m 20 a2 k = iZ (8 * (tAt ts k).2.2.2.1 + (tAt ts k).1) ∧ gI m 20 a3 k = iZ (tAt ts k).2.2.2.2.1 ∧ gI m 20 a4 k = iZ (tAt ts k).2.2.2.2.2
  | [], k, _, h => by simp at h
  | t :: ts, k, hv, h => by
    unfold tAt
    by_cases e : k = ts.length
    · rw [if_pos e, e]; exact hv.1
    · rw [if_neg e]; exact RV.at hv.2 (by simp at h; omega)
theorem MV.at {m : Mem} : ∀ {ts : List Tn} {k : Nat}, MV m ts → k < ts.length → RowM m k (tAt ts k)
  | [], k, _, h => by simp at h
  | t :: ts, k, hv, h => by
    unfold tAt
    by_cases e : k = ts.length
    · rw [if_pos e, e]; exact hv.1
    · rw [if_neg e]; exact MV.at hv.2 (by simp at h; omega)
/-- one behind another -/
def CH : List Tn → Int → Prop
  | [], c => 0 ≤ c
  | t :: ts, c => t.2.2.2.2.1 + t.2.2.2.2.2 ≤ c ∧ 1 ≤ t.2.2.2.2.2 ∧ CH ts t.2.2.2.2.1
theorem CH.up {c d : Int} : ∀ {ts : List Tn}, CH ts c → c ≤ d → CH ts d
  | [], h, e => Int.le_trans h e
  | t :: ts, h, e => ⟨Int.le_trans h.1 e, h.2⟩
theorem CH.nn {c : Int} : ∀ {ts : List Tn}, CH ts c → 0 ≤ c
  | [], h => h
  | t :: ts, h => by have := CH.nn h.2.2; have := h.1; have := h.2.1; omega
theorem CH.mem {c : Int} : ∀ {ts : List Tn} {t : Tn}, CH ts c → t ∈ ts → 0 ≤ t.2.2.2.2.1 ∧ 1 ≤ t.2.2.2.2.2 ∧ t.2.2.2.2.1 + t.2.2.2.2.2 ≤ c
  | [], t, _, h => by cases h
  | u :: ts, t, h, hm => by
    rcases List.mem_cons.mp hm with e | e
    · subst e; exact ⟨CH.nn h.2.2, h.2.1, h.1⟩
    · have h1 := CH.mem h.2.2 e
      have := h.1; have := h.2.1
      exact ⟨h1.1, h1.2.1, by omega⟩
def TI (i : Nat) (t : Tn) : Prop := (0 ≤ t.1 ∧ t.1 ≤ 5) ∧ 0 ≤ t.2.2.2.1 ∧ t.2.2.2.1 < i
def WV (i : Nat) (s : WS) : Prop := CH s.1 s.2.2 ∧ ∀ t ∈ s.1, TI i t
def LQ (q : List Pl) : Prop := ∀ x ∈ q, (0 ≤ x.1 ∧ x.1 ≤ 5) ∧ 1 ≤ x.2.2
theorem LQ.nil : LQ [] := fun x h => by cases h
theorem LQ.cons {x : Pl} {q : List Pl} (h : (0 ≤ x.1 ∧ x.1 ≤ 5) ∧ 1 ≤ x.2.2) (hq : LQ q) : LQ (x :: q) := fun y hy => by
  rcases List.mem_cons.mp hy with e | e
  · subst e; exact h
  · exact hq y e
theorem LQ.app {q r : List Pl} (hq : LQ q) (hr : LQ r) : LQ (q ++ r) := fun y hy => by
  rcases List.mem_append.mp hy with e | e
  · exact hq y e
  · exact hr y e
theorem WV.pl {i : Nat} {k l : Int} {p : Int × Int} {s : WS} (h : WV (i + 1) s) (hk : 0 ≤ k ∧ k ≤ 5) (hl : 1 ≤ l) : WV (i + 1) (plN i k p l s) := by
  refine ⟨⟨Int.le_refl _, hl, h.1⟩, fun t ht => ?_⟩
  rcases List.mem_cons.mp ht with e | e
  · subst e; exact ⟨hk, by show (0 : Int) ≤ (i : Int); omega, by show (i : Int) < ((i + 1 : Nat) : Int); omega⟩
  · exact h.2 t e
theorem WV.ap {i : Nat} : ∀ {q : List Pl} {s : WS}, WV (i + 1) s → LQ q → WV (i + 1) (apN i q s)
  | [], s, h, _ => h
  | x :: q, s, h, hq => by
    show WV (i + 1) (apN i q (plN i x.1 x.2.1 x.2.2 s))
    exact WV.ap (h.pl (hq x List.mem_cons_self).1 (hq x List.mem_cons_self).2) (fun y hy => hq y (List.mem_cons_of_mem _ hy))
theorem WV.sh {i : Nat} {d : Int} {s : WS} (h : WV i s) (hd : 0 ≤ d ∧ d < ltL s) : WV i (shN d s) := by
  obtain ⟨ts, b, c⟩ := s
  cases ts with
  | nil => exact absurd hd.2 (by show ¬ d < 0; omega)
  | cons t ts =>
    have hd2 : d < t.2.2.2.2.2 := hd.2
    obtain ⟨⟨h1, h2, h3⟩, h4⟩ := h
    refine ⟨⟨?_, ?_, h3⟩, fun u hu => ?_⟩
    · show t.2.2.2.2.1 + (t.2.2.2.2.2 - d) ≤ c - d
      have h1 : t.2.2.2.2.1 + t.2.2.2.2.2 ≤ c := h1
      omega
    · show 1 ≤ t.2.2.2.2.2 - d; omega
    · rcases List.mem_cons.mp hu with e | e
      · subst e; exact h4 t List.mem_cons_self
      · exact h4 u (List.mem_cons_of_mem _ e)
theorem WV.up {i k : Nat} {s : WS} (h : WV i s) (hk : i ≤ k) : WV k s := ⟨h.1, fun t ht => ⟨(h.2 t ht).1, (h.2 t ht).2.1, by have := (h.2 t ht).2.2; omega⟩⟩
theorem shQ_ok {P : Int → Int × Int} {c : Nat} {e lf : Int} (hc : c < 6) (he : 1 ≤ e) (hl : (shI c).length * e + 1 ≤ lf) : LQ (shQ P c e lf) := by
  unfold shQ
  refine LQ.app (fun x hx => ?_) (LQ.cons ⟨by show (0 : Int) ≤ 0 ∧ (0 : Int) ≤ 5; decide, by show 1 ≤ lf - (shI c).length * e; omega⟩ LQ.nil)
  obtain ⟨k, hk, rfl⟩ := List.mem_map.mp hx
  have := shI_k c hc k hk
  exact ⟨by show 0 ≤ k ∧ k ≤ 5; omega, he⟩
theorem altQ_ok {P : Int → Int × Int} {T : Int} (hT : 1 ≤ T) : ∀ (n : Nat) (k : Int), k = 0 ∨ k = 1 → LQ (altQ P T k n)
  | 0, _, _ => LQ.nil
  | n + 1, k, h => LQ.cons ⟨by show 0 ≤ k ∧ k ≤ 5; omega, hT⟩ (altQ_ok hT n (1 - k) (by omega))
theorem fitN_lt {T t : Int} {bu : Bool} (hT : 1 ≤ T) (h : fitN T t bu ≠ 0) : fitN T t bu * T ≤ t ∧ 3 ≤ fitN T t bu := by
  unfold fitN at h ⊢
  by_cases hc : (if bu then (3 : Int) else 4) ≤ fitG (fitF T t) bu
  · rw [if_pos hc]
    have h3 : 3 ≤ fitG (fitF T t) bu := by
      refine Int.le_trans ?_ hc
      split <;> omega
    have h1 : fitG (fitF T t) bu ≤ fitF T t := by unfold fitG; split <;> omega
    have h2 : fitF T t * T ≤ t := by
      unfold fitF
      split
      · have e : min 64 (t / T) ≤ t / T := Int.min_le_right _ _
        exact Int.le_trans (Int.mul_le_mul_of_nonneg_right e (by omega)) (Int.ediv_mul_le _ (by omega))
      · exfalso
        have : fitF T t = 0 := by unfold fitF; rw [if_neg (by assumption)]
        omega
    exact ⟨Int.le_trans (Int.mul_le_mul_of_nonneg_right h1 (by omega)) h2, h3⟩
  · rw [if_neg hc] at h; exact absurd rfl h
theorem trQ_ok {P : Int → Int × Int} {T t : Int} {bu : Bool} (hT : 1 ≤ T) (h : fitN T t bu ≠ 0) : LQ (trQ P T bu (fitN T t bu) t) := by
  have h1 := fitN_lt hT h
  unfold trQ
  refine LQ.app (altQ_ok hT _ _ (by split <;> omega)) (LQ.cons ⟨by show (0 : Int) ≤ 0 ∧ (0 : Int) ≤ 5; decide, ?_⟩ LQ.nil)
  show 1 ≤ t - (fitN T t bu - 1) * T
  rw [Int.sub_mul, Int.one_mul]
  omega
theorem tsS_q {P : Int → Int × Int} {T lf : Int} {bu af : Bool} (hT : 1 ≤ T) : LQ (tsS P T lf bu af).2.1 := by
  unfold tsS
  split
  · rename_i h
    exact LQ.app (trQ_ok hT h.2) (LQ.cons ⟨by show (0 : Int) ≤ 2 ∧ (2 : Int) ≤ 5; decide, hT⟩ (LQ.cons ⟨by show (0 : Int) ≤ 0 ∧ (0 : Int) ≤ 5; decide, hT⟩ LQ.nil))
  · split
    · rename_i h
      exact trQ_ok hT h
    · exact LQ.nil
theorem prS_q {P : Int → Int × Int} {T lf : Int} {bu : Bool} (hT : 1 ≤ T) : LQ (prS P T lf bu).2 := by
  unfold prS
  split
  · split
    · exact shQ_ok (by decide) hT (by show (2 : Int) * T + 1 ≤ lf; omega)
    · exact LQ.nil
  · split
    · exact shQ_ok (by decide) hT (by show (3 : Int) * T + 1 ≤ lf; omega)
    · split
      · exact shQ_ok (by decide) hT (by show (2 : Int) * T + 1 ≤ lf; omega)
      · exact LQ.nil
theorem tuS_q {P : Int → Int × Int} {T lf : Int} {q4 : Bool} {c : Nat} (hT : 1 ≤ T) (hl : 8 ≤ lf) (hc : c = 1 ∨ c = 2) : LQ (tuS P T lf q4 c).2 := by
  unfold tuS
  have h3 : (shI c).length = 3 := by rcases hc with rfl | rfl <;> rfl
  split
  · exact shQ_ok (by omega) hT (by rw [h3]; omega)
  · split
    · exact LQ.nil
    · exact shQ_ok (by omega) (by omega) (by rw [h3]; omega)
theorem bodS_q {P : Int → Int × Int} {T lf bd : Int} {bu af sty q4 q8 : Bool} (hT : 1 ≤ T) (hl : 8 ≤ lf) : LQ (bodS P T lf bu af sty q4 q8 bd).2.1 := by
  unfold bodS
  split
  · split
    · exact tsS_q hT
    · exact prS_q hT
  split
  · split
    · exact shQ_ok (by decide) hT (by show (2 : Int) * T + 1 ≤ lf; omega)
    · exact LQ.nil
  split
  · exact prS_q hT
  split
  · exact tuS_q hT hl (Or.inl rfl)
  split
  · split
    · exact tuS_q hT hl (Or.inl rfl)
    · exact LQ.cons ⟨by show (0 : Int) ≤ 0 ∧ (0 : Int) ≤ 5; decide, by show 1 ≤ 4 * (lf / 8); omega⟩ (shQ_ok (by decide) (by omega) (by show (3 : Int) * (lf / 8) + 1 ≤ lf - 4 * (lf / 8); omega))
  split
  · exact tuS_q hT hl (Or.inr rfl)
  split
  · split
    · exact shQ_ok (by decide) hT (by show (4 : Int) * T + 1 ≤ lf; omega)
    · split
      · exact shQ_ok (by decide) hT (by show (2 : Int) * T + 1 ≤ lf; omega)
      · exact LQ.nil
  split
  · split
    · exact LQ.cons ⟨by show (0 : Int) ≤ 2 ∧ (2 : Int) ≤ 5; decide, hT⟩ (LQ.cons ⟨by show (0 : Int) ≤ 0 ∧ (0 : Int) ≤ 5; decide, hT⟩ (tsS_q hT))
    · split
      · exact tsS_q hT
      · exact prS_q hT
  · exact LQ.nil
theorem grQ_q {g : Nat → Int × Int} {l : Int} (hl : 1 ≤ l) : ∀ (n j : Nat), LQ (grQ g l j n)
  | 0, _ => LQ.nil
  | n + 1, j => LQ.cons ⟨by show (0 : Int) ≤ 3 ∧ (3 : Int) ≤ 5; decide, hl⟩ (grQ_q hl n (j + 1))
theorem preS_w {i : Nat} {P : Int → Int × Int} {g : Nat → Int × Int} {T L ah pf : Int} {qa : Bool} {s : WS} (hs : WV (i + 1) s) (hT : 8 ≤ T) (hL : 16 ≤ L) (hp : 0 ≤ pf ∧ pf ≤ 6) : WV (i + 1) (preS i P g T L ah qa pf s).2.1 := by
  unfold preS
  split
  · exact hs
  split
  · split
    · exact hs
    · refine hs.ap (LQ.cons ⟨by show (0 : Int) ≤ 3 ∧ (3 : Int) ≤ 5; decide, ?_⟩ LQ.nil)
      show 1 ≤ apL L
      unfold apL; split <;> omega
  split
  · split
    · exact hs
    · split
      · exact hs.ap (LQ.cons ⟨by show (0 : Int) ≤ 2 ∧ (2 : Int) ≤ 5; decide, by show 1 ≤ T; omega⟩ LQ.nil)
      · exact hs.ap (LQ.cons ⟨by show (0 : Int) ≤ 4 ∧ (4 : Int) ≤ 5; decide, by show 1 ≤ T; omega⟩ (LQ.cons ⟨by show (0 : Int) ≤ 2 ∧ (2 : Int) ≤ 5; decide, by show 1 ≤ T; omega⟩ LQ.nil))
  split
  · rename_i h
    refine (hs.sh ⟨?_, ?_⟩).ap (grQ_q (by omega) _ _)
    · exact Int.mul_nonneg hp.1 (by omega)
    · have hc : pf = 1 ∨ pf = 2 ∨ pf = 3 ∨ pf = 4 := by omega
      have h2 := h.2.2
      rcases hc with rfl | rfl | rfl | rfl <;> omega
  · exact hs.ap (grQ_q (by omega) _ _)
theorem behS_w {i : Nat} {T bh : Int} {nx : NX} {ab : Bool} {s : WS} (hs : WV (i + 1) s) (hT : 8 ≤ T) : WV (i + 1) (behS i T bh nx ab s).2 := by
  unfold behS
  split
  · exact hs
  split
  · split
    · exact hs
    · split
      · exact hs
      · exact (hs.sh ⟨by omega, by omega⟩).pl (by decide) (by omega)
  · exact hs
theorem wN_w {tm : Nat → Int} {pc : Int} {f : NF} {nx : NX} {i : Nat} {s : WS} (hf : NOK f) (hT : 8 ≤ wT tm pc f ∧ wT tm pc f ≤ 2000) (hs : WV i s) : WV (i + 1) (wN tm pc f nx i s).1 := by
  have hs := hs.up (Nat.le_succ i)
  have h5 := hf.2.2.1
  unfold wN
  split
  · have h1 := preS_ok (i := i) (P := Pk (tm 3) f) (g := nGr f) (ah := tm 2) (qa := decide (qk (tm 0) (f 9) pc (apL (f 5)))) (s := s) hT hf.2.2.1 hf.2.2.2.2.2.2.2.2.1
    have w1 := preS_w (i := i) (P := Pk (tm 3) f) (g := nGr f) (L := f 5) (ah := tm 2) (qa := decide (qk (tm 0) (f 9) pc (apL (f 5)))) hs hT.1 h5.1 hf.2.2.2.2.2.2.2.2.1
    refine behS_w ?_ hT.1
    have hb := bodS_q (P := Pk (tm 3) f) (T := wT tm pc f) (lf := f 5 - (wP tm pc f i s).2.2.1) (bd := f 10) (bu := decide (buP (Pk (tm 3) f) (wP tm pc f i s).2.1 (tm 6))) (af := afB (Pk (tm 3) f) (f 12) (tm 4) nx) (sty := decide (tm 6 = 1)) (q4 := decide (qk (tm 0) (f 9) pc ((f 5 - (wP tm pc f i s).2.2.1) / 4))) (q8 := decide (qk (tm 0) (f 9) pc ((f 5 - (wP tm pc f i s).2.2.1) / 8))) (by omega) h1.2.2.2
    have hq : WV (i + 1) (apN i (wB tm pc f nx (wP tm pc f i s).2.1 (f 5 - (wP tm pc f i s).2.2.1)).2.1 (wP tm pc f i s).2.1) := WV.ap w1 hb
    unfold wC
    split
    · exact hq.pl (by decide) (by have := h1.2.2.2; show 1 ≤ f 5 - (preS i (Pk (tm 3) f) (nGr f) (wT tm pc f) (f 5) (tm 2) (decide (qk (tm 0) (f 9) pc (apL (f 5)))) (f 11) s).2.2.1; omega)
    · exact hq
  · exact ⟨hs.1.up (by show s.2.2 ≤ s.2.2 + f 5; omega), hs.2⟩
theorem wr_w {tm : Nat → Int} {pc : Int} {D : Dt} (ht : tmOK tm) (hp : 0 ≤ pc ∧ pc ≤ 400) (hD : DOK D) : ∀ n, n ≤ D.1 → WV n (wr tm pc D n)
  | 0, _ => ⟨Int.le_refl _, fun t h => by cases h⟩
  | n + 1, h => wN_w (hD.2.1 n (by omega)) (wT_rng ht (hD.2.1 n (by omega)) hp) (wr_w ht hp hD n (by omega))
/-- what every tone of a song keeps -/
theorem tone_ok {tp : Nat → Int} {td : Nat} {tm : Nat → Int} {D : Dt} {k : Nat} {pc : Int} (hS : SI tp td tm D) (hp : 0 ≤ pc ∧ pc ≤ 400) (hk : k < (wr tm pc D D.1).1.length) : TI D.1 (tAt (wr tm pc D D.1).1 k) ∧ 0 ≤ (tAt (wr tm pc D D.1).1 k).2.2.2.2.1 ∧ 1 ≤ (tAt (wr tm pc D D.1).1 k).2.2.2.2.2 ∧ (tAt (wr tm pc D D.1).1 k).2.2.2.2.1 + (tAt (wr tm pc D D.1).1 k).2.2.2.2.2 ≤ D.2.2.2.2 := by
  have h := wr_w hS.2.2.1 hp hS.dok D.1 (Nat.le_refl _)
  have hm := tAt_mem hk
  have h2 := CH.mem h.1 hm
  rw [wr_end hS.2.2.1 hp hS.dok hS.bok] at h2
  exact ⟨h.2 _ hm, h2⟩
theorem SI.en {tp : Nat → Int} {td : Nat} {tm : Nat → Int} {D : Dt} (h : SI tp td tm D) : 0 ≤ D.2.2.2.2 ∧ D.2.2.2.2 ≤ 1000000 ∧ D.2.2.1 ≤ 114 := by
  obtain ⟨be, s1, s2, s3, s4, s5, s6⟩ := h.2.2.2
  omega
