/-! ROWS of the memory: every store as a new row -/
theorem mem_ext {m m' : Mem} (h1 : ∀ t n k, gI m t n k = gI m' t n k) (h2 : m.2 = m'.2) : m = m' := by
  obtain ⟨a, b⟩ := m
  obtain ⟨a', b'⟩ := m'
  have : a = a' := funext fun t => funext fun n => funext fun k => h1 t n k
  subst this
  cases h2
  rfl
theorem gI_sA (m : Mem) (t n : Nat) (f : Nat → Int32) (t' n' : Nat) : gI (sA m t n f) t' n' = if n' = n ∧ t' = t then f else gI m t' n' := by
  funext k
  show (if n' = n then (if t' = t then f k else gI m t' n' k) else gI m t' n' k) = _
  by_cases h1 : n' = n
  · by_cases h2 : t' = t
    · simp [h1, h2]
    · simp [h1, h2]
  · simp [h1]
theorem sI_sA (m : Mem) (t n k : Nat) (v : Int32) : sI m t n k v = sA m t n (upd (gI m t n) k v) := by
  refine mem_ext (fun t' n' k' => ?_) rfl
  rw [gI_sA]
  by_cases h : n' = n ∧ t' = t
  · rw [if_pos h]
    obtain ⟨rfl, rfl⟩ := h
    rw [gI_sI_row]
  · rw [if_neg h]
    by_cases h1 : n' = n
    · have h2 : t' ≠ t := fun z => h ⟨h1, z⟩
      exact gI_sI_t h2
    · exact gI_sI_n h1
theorem sA_sA (m : Mem) (t n : Nat) (f g : Nat → Int32) : sA (sA m t n f) t n g = sA m t n g := by
  refine mem_ext (fun t' n' k' => ?_) rfl
  rw [gI_sA]
  by_cases h : n' = n ∧ t' = t
  · rw [if_pos h, gI_sA, if_pos h]
  · rw [if_neg h, gI_sA, if_neg h, gI_sA, if_neg h]
theorem sA_id (m : Mem) (t n : Nat) : sA m t n (gI m t n) = m := by
  refine mem_ext (fun t' n' k' => ?_) rfl
  rw [gI_sA]
  by_cases h : n' = n ∧ t' = t
  · rw [if_pos h]; obtain ⟨rfl, rfl⟩ := h; rfl
  · rw [if_neg h]
theorem sA_swap {t n t' n' : Nat} (m : Mem) (f g : Nat → Int32) (h : ¬ (n' = n ∧ t' = t)) : sA (sA m t n f) t' n' g = sA (sA m t' n' g) t n f := by
  refine mem_ext (fun t2 n2 k2 => ?_) rfl
  simp only [gI_sA]
  by_cases h1 : n2 = n' ∧ t2 = t'
  · have : ¬ (n2 = n ∧ t2 = t) := fun z => h ⟨h1.1.symm.trans z.1, h1.2.symm.trans z.2⟩
    simp only [if_pos h1, if_neg this]
  · simp only [if_neg h1]
theorem gP_sA (m : Mem) (t n : Nat) (f : Nat → Int32) : gP (sA m t n f) = gP m := rfl
theorem gI_sP (m : Mem) (t n k : Nat) (v : Option Rf) : gI (sP m t n k v) = gI m := rfl
theorem u_s (f : Nat → Int32) (k : Nat) (v : Int32) : upd f k v k = v := by simp [upd]
theorem u_n {f : Nat → Int32} {k j : Nat} {v : Int32} (h : j ≠ k) : upd f k v j = f j := by simp [upd, h]
theorem u_id (f : Nat → Int32) (k : Nat) : upd f k (f k) = f := by
  funext j; by_cases h : j = k
  · subst h; simp [upd]
  · simp [upd, h]
theorem u_u (f : Nat → Int32) (k : Nat) (v w : Int32) : upd (upd f k v) k w = upd f k w := by
  funext j; by_cases h : j = k <;> simp [upd, h]
theorem u_c {f : Nat → Int32} {k j : Nat} {v w : Int32} (h : k ≠ j) : upd (upd f k v) j w = upd (upd f j w) k v := by
  funext q; by_cases h1 : q = j
  · subst h1; simp [upd, Ne.symm h]
  · simp [upd, h1]
section NOTE
variable {md : Bool} {m : Mem} {K : Option SV → Mem → Prop} {n : Nat}
theorem c_takesAfterbeat {k : Int} (hk : R32 k) (h1 : k = 1 ∨ k = 8 → K (some (vI 1)) m) (h0 : ¬ (k = 1 ∨ k = 8) → K (some (vI 0)) m) : smC md 91 [vI (iZ k)] m K := by
  refine smC_wp [some (vI (iZ k))] cd_91 [] 30 OK_91 (by decide) rfl rfl (Nat.le_of_ble_eq_true rfl) ?_
  refine And.intro (fun z => ?_) (fun z => ?_)
  · rw [L1, iZ_eq hk (by decide)] at z
    exact And.intro (Or.inr rfl) (h1 (Or.inl z))
  · rw [L1, iZ_eq hk (by decide)] at z
    refine And.intro (fun q => ?_) (fun q => ?_)
    · rw [L8, iZ_eq hk (by decide)] at q
      exact And.intro (Or.inl rfl) (h0 (by omega))
    · rw [L8, iZ_eq hk (by decide)] at q
      exact And.intro (Or.inr rfl) (h1 (Or.inr q))
theorem c_isBody {k : Int} (hk : R32 k) (h1 : 0 ≤ k ∧ k ≤ 8 → K (some (vI 1)) m) (h0 : ¬ (0 ≤ k ∧ k ≤ 8) → K (some (vI 0)) m) : smC md 101 [vI (iZ k)] m K := by
  refine smC_wp [some (vI (iZ k))] cd_101 [] 30 OK_101 (by decide) rfl rfl (Nat.le_of_ble_eq_true rfl) ?_
  refine And.intro (fun z => ?_) (fun z => ?_)
  · rw [L0, iZ_lt hk (by decide)] at z
    exact And.intro (Or.inl rfl) (h0 (by omega))
  · rw [L0, iZ_lt hk (by decide)] at z
    refine And.intro (fun q => ?_) (fun q => ?_)
    · rw [L8, iZ_lt (by decide) hk] at q
      exact And.intro (Or.inl rfl) (h0 (by omega))
    · rw [L8, iZ_lt (by decide) hk] at q
      exact And.intro (Or.inr rfl) (h1 (by omega))
theorem c_isRest {z : Int} (hz : R32 z) (hp : gI m 8 n 0 = iZ z) (h1 : z < 0 → K (some (vI 1)) m) (h0 : 0 ≤ z → K (some (vI 0)) m) : smC true 3 [vR (some (8, n))] m K := by
  refine smC_wp [some (vR (some (8, n)))] cd_3 [] 30 OK_3 (by decide) rfl rfl (Nat.le_of_ble_eq_true rfl) ?_
  refine And.intro (fun q => ?_) (fun q => ?_)
  · rw [hp, L0, iZ_le (by decide) hz] at q
    exact And.intro (Or.inl rfl) (h0 q)
  · rw [hp, L0, iZ_le (by decide) hz] at q
    exact And.intro (Or.inr rfl) (h1 (by omega))
/-- the sign that a neighbour goes by -/
def toldN (own hold held : Int) : Int := if own ≠ 2 then own else if hold = 1 then held else 2
theorem toldN_rng {own hold held : Int} (h1 : -1 ≤ own ∧ own ≤ 2) (h2 : -1 ≤ held ∧ held ≤ 2) : -1 ≤ toldN own hold held ∧ toldN own hold held ≤ 2 := by unfold toldN; split <;> (try split) <;> omega
theorem natN_rng {s : Int} (h : -2 ≤ s ∧ s < 68) : 0 ≤ natN s ∧ natN s ≤ 131 := by
  have := bsN_rng (s % 7) (m7 s)
  unfold natN; omega
theorem byN_rng {s sg key : Int} (h : -2 ≤ s ∧ s < 68) (hs : -1 ≤ sg ∧ sg ≤ 2) : -1 ≤ byN s sg key ∧ byN s sg key ≤ 133 := by
  have := natN_rng h
  have := altN_rng key (s % 7)
  unfold byN; split <;> omega
def upN (num s up hu key hold : Int) : Int := max (byN (s + 1) (toldN up hold hu) key) (num + 1)
def dnN (num s dn hd key hold : Int) : Int := min (byN (s - 1) (toldN dn hold hd) key) (num - 1)
def loN (low s hl key hold : Int) : Int := min (byN (s - 2) (toldN 2 hold hl) key) (low - 1)
theorem c_upperIn {num s up hu key hold : Int} {xk xh : Int32} (hxk : xk = iZ key) (hxh : xh = iZ hold) (hn : 0 ≤ num ∧ num < 200) (hs : 0 ≤ s ∧ s < 63) (hu1 : -1 ≤ up ∧ up ≤ 2) (hu2 : -1 ≤ hu ∧ hu ≤ 2) (hk : -7 ≤ key ∧ key ≤ 7) (hh : R32 hold) (hp : gI m 8 n 0 = iZ (pit num s)) (h10 : gI m 8 n 10 = iZ up) (h13 : gI m 8 n 13 = iZ hu)
    (h : K (some (vI (iZ (pit (upN num s up hu key hold) (s + 1))))) m) : smC true 4 [vR (some (8, n)), vI xk, vI xh] m K := by
  subst hxk; subst hxh
  refine smC_of (by decide) rfl (Nat.le_of_ble_eq_true rfl) ?_
  have rest : ∀ told : Int, told = toldN up hold hu → smE true 4 38 [some (vR (some (8, n))), some (vI (iZ key)), some (vI (iZ hold)), some (vI (iZ (s + 1))), none] [vI (iZ told)] m K := by
    intro told ht
    have htr := toldN_rng (hold := hold) hu1 hu2
    rw [← ht] at htr
    refine wp_ok (by decide) OK_4 (cc := cd_4) rfl (stops := []) 60 _ _ _ _ ?_
    refine And.intro trivial (c_numberBy rfl rfl rfl (by omega) hk htr ?_)
    refine And.intro trivial (c_num hp (by omega) (by omega) ?_)
    have hb := byN_rng (s := s + 1) (key := key) (by omega) htr
    refine And.intro trivial (c_max ?_)
    rw [L1, iZ_add, iZ_toInt (by constructor <;> omega), iZ_toInt (by constructor <;> omega)]
    refine And.intro trivial (c_pit rfl rfl ?_)
    refine And.intro trivial ?_
    rw [ht]
    exact h
  refine wp_ok (by decide) OK_4 (cc := cd_4) rfl (stops := [38]) 60 _ _ _ _ ?_
  refine And.intro trivial (c_step hp (by omega) (by omega) ?_)
  refine And.intro (fun z => ?_) (fun z => ?_)
  · rw [h10, L2, iZ_eq (by constructor <;> omega) (by decide)] at z
    refine And.intro (fun q => ?_) (fun q => ?_)
    · rw [L1, iZ_eq hh (by decide)] at q
      refine And.intro trivial ?_
      rw [L1, iZ_add]
      exact rest 2 (by unfold toldN; rw [if_neg (by omega), if_neg q])
    · rw [L1, iZ_eq hh (by decide)] at q
      refine And.intro trivial ?_
      rw [L1, iZ_add, h13]
      exact rest hu (by unfold toldN; rw [if_neg (by omega), if_pos q])
  · rw [h10, L2, iZ_eq (by constructor <;> omega) (by decide)] at z
    refine And.intro trivial ?_
    rw [L1, iZ_add, h10]
    exact rest up (by unfold toldN; rw [if_pos z])
theorem c_lowerIn {num s dn hl key hold : Int} {xk xh : Int32} (hxk : xk = iZ key) (hxh : xh = iZ hold) (hn : 0 ≤ num ∧ num < 200) (hs : 0 ≤ s ∧ s < 63) (hu1 : -1 ≤ dn ∧ dn ≤ 2) (hu2 : -1 ≤ hl ∧ hl ≤ 2) (hk : -7 ≤ key ∧ key ≤ 7) (hh : R32 hold) (hp : gI m 8 n 0 = iZ (pit num s)) (h11 : gI m 8 n 11 = iZ dn) (h14 : gI m 8 n 14 = iZ hl)
    (h : K (some (vI (iZ (pit (dnN num s dn hl key hold) (s - 1))))) m) : smC true 5 [vR (some (8, n)), vI xk, vI xh] m K := by
  subst hxk; subst hxh
  refine smC_of (by decide) rfl (Nat.le_of_ble_eq_true rfl) ?_
  have rest : ∀ told : Int, told = toldN dn hold hl → smE true 5 38 [some (vR (some (8, n))), some (vI (iZ key)), some (vI (iZ hold)), some (vI (iZ (s - 1))), none] [vI (iZ told)] m K := by
    intro told ht
    have htr := toldN_rng (hold := hold) hu1 hu2
    rw [← ht] at htr
    refine wp_ok (by decide) OK_5 (cc := cd_5) rfl (stops := []) 60 _ _ _ _ ?_
    refine And.intro trivial (c_numberBy rfl rfl rfl (by omega) hk htr ?_)
    refine And.intro trivial (c_num hp (by omega) (by omega) ?_)
    have hb := byN_rng (s := s - 1) (key := key) (by omega) htr
    refine And.intro trivial (c_min ?_)
    rw [L1, iZ_sub, iZ_toInt (by constructor <;> omega), iZ_toInt (by constructor <;> omega)]
    refine And.intro trivial (c_pit rfl rfl ?_)
    refine And.intro trivial ?_
    rw [ht]
    exact h
  refine wp_ok (by decide) OK_5 (cc := cd_5) rfl (stops := [38]) 60 _ _ _ _ ?_
  refine And.intro trivial (c_step hp (by omega) (by omega) ?_)
  refine And.intro (fun z => ?_) (fun z => ?_)
  · rw [h11, L2, iZ_eq (by constructor <;> omega) (by decide)] at z
    refine And.intro (fun q => ?_) (fun q => ?_)
    · rw [L1, iZ_eq hh (by decide)] at q
      refine And.intro trivial ?_
      rw [L1, iZ_sub]
      exact rest 2 (by unfold toldN; rw [if_neg (by omega), if_neg q])
    · rw [L1, iZ_eq hh (by decide)] at q
      refine And.intro trivial ?_
      rw [L1, iZ_sub, h14]
      exact rest hl (by unfold toldN; rw [if_neg (by omega), if_pos q])
  · rw [h11, L2, iZ_eq (by constructor <;> omega) (by decide)] at z
    refine And.intro trivial ?_
    rw [L1, iZ_sub, h11]
    exact rest dn (by unfold toldN; rw [if_pos z])
theorem c_lowIn {num s low hl key hold : Int} {xl xh : Int32} (hxl : xl = iZ (pit low (s - 1))) (hxh : xh = iZ hold) (hn : 0 ≤ num ∧ num < 200) (hlo : 0 ≤ low ∧ low < 200) (hs : 0 ≤ s ∧ s < 63) (hu2 : -1 ≤ hl ∧ hl ≤ 2) (hk : -7 ≤ key ∧ key ≤ 7) (hh : R32 hold) (hp : gI m 8 n 0 = iZ (pit num s)) (h4 : gI m 8 n 4 = iZ key) (h15 : gI m 8 n 15 = iZ hl)
    (h : K (some (vI (iZ (pit (loN low s hl key hold) (s - 2))))) m) : smC true 6 [vR (some (8, n)), vI xl, vI xh] m K := by
  subst hxl; subst hxh
  refine smC_of (by decide) rfl (Nat.le_of_ble_eq_true rfl) ?_
  have rest : ∀ told : Int, told = toldN 2 hold hl → smE true 6 23 [some (vR (some (8, n))), some (vI (iZ (pit low (s - 1)))), some (vI (iZ hold)), some (vI (iZ (s - 2))), none] [vI (iZ told)] m K := by
    intro told ht
    have htr := toldN_rng (hold := hold) (own := 2) (by decide) hu2
    rw [← ht] at htr
    refine wp_ok (by decide) OK_6 (cc := cd_6) rfl (stops := []) 60 _ _ _ _ ?_
    refine And.intro trivial (c_numberBy rfl rfl h4 (by omega) hk htr ?_)
    refine And.intro trivial (c_num rfl (by omega) (by omega) ?_)
    have hb := byN_rng (s := s - 2) (key := key) (by omega) htr
    refine And.intro trivial (c_min ?_)
    rw [L1, iZ_sub, iZ_toInt (by constructor <;> omega), iZ_toInt (by constructor <;> omega)]
    refine And.intro trivial (c_pit rfl rfl ?_)
    refine And.intro trivial ?_
    rw [ht]
    exact h
  refine wp_ok (by decide) OK_6 (cc := cd_6) rfl (stops := [23]) 60 _ _ _ _ ?_
  refine And.intro trivial (c_step hp (by omega) (by omega) ?_)
  refine And.intro (fun q => ?_) (fun q => ?_)
  · rw [L1, iZ_eq hh (by decide)] at q
    refine And.intro trivial ?_
    rw [L2, iZ_sub]
    exact rest 2 (by unfold toldN; rw [if_neg (by omega), if_neg q])
  · rw [L1, iZ_eq hh (by decide)] at q
    refine And.intro trivial ?_
    rw [L2, iZ_sub, h15]
    exact rest hl (by unfold toldN; rw [if_neg (by omega), if_pos q])
end NOTE
