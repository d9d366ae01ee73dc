def LWok (q : Nat × Nat × Nat) : Prop := tables_1[q.2.2]? = some (u_lay (cN q.1) (fT q.1) q.2.1)
def LW_0 : List (Nat × Nat × Nat) := [(0, 0, 998), (0, 1, 1000), (0, 2, 1002), (0, 3, 1004), (1, 0, 287), (1, 1, 289), (1, 2, 291), (1, 3, 293), (1, 4, 295), (1, 5, 297), (1, 6, 299), (1, 7, 301), (1, 8, 303), (1, 9, 305), (1, 10, 307), (1, 11, 309), (1, 12, 311), (1, 13, 313), (1, 14, 315), (1, 15, 317), (2, 0, 56), (2, 1, 58), (2, 2, 60), (2, 3, 62)]
set_option maxRecDepth 20000 in
theorem LW_0_ok : ∀ q ∈ LW_0, LWok q := List.forall_mem_cons.mpr ⟨rfl, List.forall_mem_cons.mpr ⟨rfl, List.forall_mem_cons.mpr ⟨rfl, List.forall_mem_cons.mpr ⟨rfl, List.forall_mem_cons.mpr ⟨rfl, List.forall_mem_cons.mpr ⟨rfl, List.forall_mem_cons.mpr ⟨rfl, List.forall_mem_cons.mpr ⟨rfl, List.forall_mem_cons.mpr ⟨rfl, List.forall_mem_cons.mpr ⟨rfl, List.forall_mem_cons.mpr ⟨rfl, List.forall_mem_cons.mpr ⟨rfl, List.forall_mem_cons.mpr ⟨rfl, List.forall_mem_cons.mpr ⟨rfl, List.forall_mem_cons.mpr ⟨rfl, List.forall_mem_cons.mpr ⟨rfl, List.forall_mem_cons.mpr ⟨rfl, List.forall_mem_cons.mpr ⟨rfl, List.forall_mem_cons.mpr ⟨rfl, List.forall_mem_cons.mpr ⟨rfl, List.forall_mem_cons.mpr ⟨rfl, List.forall_mem_cons.mpr ⟨rfl, List.forall_mem_cons.mpr ⟨rfl, List.forall_mem_cons.mpr ⟨rfl, fun _ h => absurd h List.not_mem_nil⟩⟩⟩⟩⟩⟩⟩⟩⟩⟩⟩⟩⟩⟩⟩⟩⟩⟩⟩⟩⟩⟩⟩⟩
def LW_1 : List (Nat × Nat × Nat) := [(2, 4, 64), (2, 5, 66), (2, 6, 68), (2, 7, 70), (2, 8, 72), (2, 9, 74), (2, 10, 76), (2, 11, 78), (2, 12, 80), (2, 13, 82), (2, 14, 84), (2, 15, 86), (2, 16, 88), (2, 17, 90), (3, 0, 141), (3, 1, 143), (3, 2, 145), (3, 3, 147), (3, 4, 149), (3, 5, 151), (3, 6, 153), (3, 7, 155), (3, 8, 157), (3, 9, 159)]
set_option maxRecDepth 20000 in
theorem LW_1_ok : ∀ q ∈ LW_1, LWok q := List.forall_mem_cons.mpr ⟨rfl, List.forall_mem_cons.mpr ⟨rfl, List.forall_mem_cons.mpr ⟨rfl, List.forall_mem_cons.mpr ⟨rfl, List.forall_mem_cons.mpr ⟨rfl, List.forall_mem_cons.mpr ⟨rfl, List.forall_mem_cons.mpr ⟨rfl, List.forall_mem_cons.mpr ⟨rfl, List.forall_mem_cons.mpr ⟨rfl, List.forall_mem_cons.mpr ⟨rfl, List.forall_mem_cons.mpr ⟨rfl, List.forall_mem_cons.mpr ⟨rfl, List.forall_mem_cons.mpr ⟨rfl, List.forall_mem_cons.mpr ⟨rfl, List.forall_mem_cons.mpr ⟨rfl, List.forall_mem_cons.mpr ⟨rfl, List.forall_mem_cons.mpr ⟨rfl, List.forall_mem_cons.mpr ⟨rfl, List.forall_mem_cons.mpr ⟨rfl, List.forall_mem_cons.mpr ⟨rfl, List.forall_mem_cons.mpr ⟨rfl, List.forall_mem_cons.mpr ⟨rfl, List.forall_mem_cons.mpr ⟨rfl, List.forall_mem_cons.mpr ⟨rfl, fun _ h => absurd h List.not_mem_nil⟩⟩⟩⟩⟩⟩⟩⟩⟩⟩⟩⟩⟩⟩⟩⟩⟩⟩⟩⟩⟩⟩⟩⟩
def LW_2 : List (Nat × Nat × Nat) := [(3, 10, 161), (3, 11, 163), (3, 12, 165), (3, 13, 167), (3, 14, 169), (3, 15, 171), (3, 16, 173), (4, 0, 335), (4, 1, 337), (4, 2, 339), (4, 3, 341), (4, 4, 343), (5, 0, 192), (5, 1, 194), (5, 2, 196), (5, 3, 198), (5, 4, 200), (5, 5, 202), (5, 6, 204), (5, 7, 206), (5, 8, 208), (5, 9, 210), (5, 10, 212), (5, 11, 214)]
set_option maxRecDepth 20000 in
theorem LW_2_ok : ∀ q ∈ LW_2, LWok q := List.forall_mem_cons.mpr ⟨rfl, List.forall_mem_cons.mpr ⟨rfl, List.forall_mem_cons.mpr ⟨rfl, List.forall_mem_cons.mpr ⟨rfl, List.forall_mem_cons.mpr ⟨rfl, List.forall_mem_cons.mpr ⟨rfl, List.forall_mem_cons.mpr ⟨rfl, List.forall_mem_cons.mpr ⟨rfl, List.forall_mem_cons.mpr ⟨rfl, List.forall_mem_cons.mpr ⟨rfl, List.forall_mem_cons.mpr ⟨rfl, List.forall_mem_cons.mpr ⟨rfl, List.forall_mem_cons.mpr ⟨rfl, List.forall_mem_cons.mpr ⟨rfl, List.forall_mem_cons.mpr ⟨rfl, List.forall_mem_cons.mpr ⟨rfl, List.forall_mem_cons.mpr ⟨rfl, List.forall_mem_cons.mpr ⟨rfl, List.forall_mem_cons.mpr ⟨rfl, List.forall_mem_cons.mpr ⟨rfl, List.forall_mem_cons.mpr ⟨rfl, List.forall_mem_cons.mpr ⟨rfl, List.forall_mem_cons.mpr ⟨rfl, List.forall_mem_cons.mpr ⟨rfl, fun _ h => absurd h List.not_mem_nil⟩⟩⟩⟩⟩⟩⟩⟩⟩⟩⟩⟩⟩⟩⟩⟩⟩⟩⟩⟩⟩⟩⟩⟩
def LW_3 : List (Nat × Nat × Nat) := [(5, 12, 216), (5, 13, 218), (6, 0, 355), (6, 1, 357), (6, 2, 359), (6, 3, 361), (6, 4, 363), (6, 5, 365), (6, 6, 367), (7, 0, 1265), (7, 1, 1267), (7, 2, 1269), (7, 3, 1271), (7, 4, 1273), (7, 5, 1275), (7, 6, 1277), (7, 7, 1279), (7, 8, 1281), (7, 9, 1283), (7, 10, 1285), (7, 11, 1287), (7, 12, 1289), (7, 13, 1291), (7, 14, 1293)]
set_option maxRecDepth 20000 in
theorem LW_3_ok : ∀ q ∈ LW_3, LWok q := List.forall_mem_cons.mpr ⟨rfl, List.forall_mem_cons.mpr ⟨rfl, List.forall_mem_cons.mpr ⟨rfl, List.forall_mem_cons.mpr ⟨rfl, List.forall_mem_cons.mpr ⟨rfl, List.forall_mem_cons.mpr ⟨rfl, List.forall_mem_cons.mpr ⟨rfl, List.forall_mem_cons.mpr ⟨rfl, List.forall_mem_cons.mpr ⟨rfl, List.forall_mem_cons.mpr ⟨rfl, List.forall_mem_cons.mpr ⟨rfl, List.forall_mem_cons.mpr ⟨rfl, List.forall_mem_cons.mpr ⟨rfl, List.forall_mem_cons.mpr ⟨rfl, List.forall_mem_cons.mpr ⟨rfl, List.forall_mem_cons.mpr ⟨rfl, List.forall_mem_cons.mpr ⟨rfl, List.forall_mem_cons.mpr ⟨rfl, List.forall_mem_cons.mpr ⟨rfl, List.forall_mem_cons.mpr ⟨rfl, List.forall_mem_cons.mpr ⟨rfl, List.forall_mem_cons.mpr ⟨rfl, List.forall_mem_cons.mpr ⟨rfl, List.forall_mem_cons.mpr ⟨rfl, fun _ h => absurd h List.not_mem_nil⟩⟩⟩⟩⟩⟩⟩⟩⟩⟩⟩⟩⟩⟩⟩⟩⟩⟩⟩⟩⟩⟩⟩⟩
def LW_4 : List (Nat × Nat × Nat) := [(7, 15, 1295), (7, 16, 1297), (7, 17, 1299), (7, 18, 1301), (7, 19, 1303), (7, 20, 1305), (7, 21, 1307), (7, 22, 1309), (7, 23, 1311), (7, 24, 1313), (7, 25, 1315), (7, 26, 1317), (7, 27, 1319), (7, 28, 1321), (7, 29, 1323), (7, 30, 1325), (7, 31, 1327), (7, 32, 1329), (7, 33, 1331), (7, 34, 1333), (7, 35, 1335), (7, 36, 1337), (7, 37, 1339), (7, 38, 1341)]
set_option maxRecDepth 20000 in
theorem LW_4_ok : ∀ q ∈ LW_4, LWok q := List.forall_mem_cons.mpr ⟨rfl, List.forall_mem_cons.mpr ⟨rfl, List.forall_mem_cons.mpr ⟨rfl, List.forall_mem_cons.mpr ⟨rfl, List.forall_mem_cons.mpr ⟨rfl, List.forall_mem_cons.mpr ⟨rfl, List.forall_mem_cons.mpr ⟨rfl, List.forall_mem_cons.mpr ⟨rfl, List.forall_mem_cons.mpr ⟨rfl, List.forall_mem_cons.mpr ⟨rfl, List.forall_mem_cons.mpr ⟨rfl, List.forall_mem_cons.mpr ⟨rfl, List.forall_mem_cons.mpr ⟨rfl, List.forall_mem_cons.mpr ⟨rfl, List.forall_mem_cons.mpr ⟨rfl, List.forall_mem_cons.mpr ⟨rfl, List.forall_mem_cons.mpr ⟨rfl, List.forall_mem_cons.mpr ⟨rfl, List.forall_mem_cons.mpr ⟨rfl, List.forall_mem_cons.mpr ⟨rfl, List.forall_mem_cons.mpr ⟨rfl, List.forall_mem_cons.mpr ⟨rfl, List.forall_mem_cons.mpr ⟨rfl, List.forall_mem_cons.mpr ⟨rfl, fun _ h => absurd h List.not_mem_nil⟩⟩⟩⟩⟩⟩⟩⟩⟩⟩⟩⟩⟩⟩⟩⟩⟩⟩⟩⟩⟩⟩⟩⟩
def LW_5 : List (Nat × Nat × Nat) := [(7, 39, 1343), (7, 40, 1345), (7, 41, 1347), (7, 42, 1349), (7, 43, 1351), (7, 44, 1353), (7, 45, 1355), (7, 46, 1357), (7, 47, 1359), (7, 48, 1361), (7, 49, 1363), (7, 50, 1365), (7, 51, 1367), (7, 52, 1369), (7, 53, 1371), (7, 54, 1373), (7, 55, 1375)]
set_option maxRecDepth 20000 in
theorem LW_5_ok : ∀ q ∈ LW_5, LWok q := List.forall_mem_cons.mpr ⟨rfl, List.forall_mem_cons.mpr ⟨rfl, List.forall_mem_cons.mpr ⟨rfl, List.forall_mem_cons.mpr ⟨rfl, List.forall_mem_cons.mpr ⟨rfl, List.forall_mem_cons.mpr ⟨rfl, List.forall_mem_cons.mpr ⟨rfl, List.forall_mem_cons.mpr ⟨rfl, List.forall_mem_cons.mpr ⟨rfl, List.forall_mem_cons.mpr ⟨rfl, List.forall_mem_cons.mpr ⟨rfl, List.forall_mem_cons.mpr ⟨rfl, List.forall_mem_cons.mpr ⟨rfl, List.forall_mem_cons.mpr ⟨rfl, List.forall_mem_cons.mpr ⟨rfl, List.forall_mem_cons.mpr ⟨rfl, List.forall_mem_cons.mpr ⟨rfl, fun _ h => absurd h List.not_mem_nil⟩⟩⟩⟩⟩⟩⟩⟩⟩⟩⟩⟩⟩⟩⟩⟩⟩
def LW : List (Nat × Nat × Nat) := LW_0 ++ LW_1 ++ LW_2 ++ LW_3 ++ LW_4 ++ LW_5
theorem LW_ok : ∀ q ∈ LW, LWok q := List.forall_mem_append.mpr ⟨List.forall_mem_append.mpr ⟨List.forall_mem_append.mpr ⟨List.forall_mem_append.mpr ⟨List.forall_mem_append.mpr ⟨LW_0_ok, LW_1_ok⟩, LW_2_ok⟩, LW_3_ok⟩, LW_4_ok⟩, LW_5_ok⟩
theorem LW_has : ∀ c, c < 8 → ∀ k, k < nf c → ∃ w, (c, k, w) ∈ LW := by
  have h : ∀ c, c < 8 → ∀ k, k < nf c → (LW.any fun q => Nat.beq q.1 c && Nat.beq q.2.1 k) = true := by decide +kernel
  intro c hc k hk
  obtain ⟨⟨c', k', w⟩, hq, h2⟩ := List.any_eq_true.mp (h c hc k hk)
  simp only [Bool.and_eq_true] at h2
  obtain ⟨e1, e2⟩ := h2
  have e1 : c' = c := Nat.eq_of_beq_eq_true e1
  have e2 : k' = k := Nat.eq_of_beq_eq_true e2
  subst e1; subst e2
  exact ⟨w, hq⟩
theorem good_lay (C : String) (T : u_T) (k : Nat) : goodWord (u_lay C T k) = true := by
  unfold u_lay
  split <;> rfl
theorem lay_in {c : Nat} (hc : c < 8) : ∀ w ∈ u_ws (cN c) (fT c) (nf c), w ∈ GW := by
  intro w hw
  obtain ⟨k, hk, rfl⟩ := List.mem_map.mp hw
  obtain ⟨p, hp⟩ := LW_has c hc k (List.mem_range.mp hk)
  exact tw (LW_ok _ hp) (good_lay _ _ _)
theorem vw_at {c : Nat} (hc : c < 8) : vwCl[c]? = some (cN c, fT c, nf c) := by
  rcases (show c = 0 ∨ c = 1 ∨ c = 2 ∨ c = 3 ∨ c = 4 ∨ c = 5 ∨ c = 6 ∨ c = 7 by omega) with rfl | rfl | rfl | rfl | rfl | rfl | rfl | rfl <;> rfl
def tyT (c k : Nat) : FieldType := match c with
  | 0 => tyJ4 k | 1 => tyX0 k | 2 => tyX1 k | 3 => tyX2 k | 4 => tyX3 k | 5 => tyX4 k | 6 => tyX5 k | 7 => tyX6 k
  | _ => .int
theorem tyT_ok {c : Nat} (hc : c < 8) : ∀ k, k < nf c → parseFieldDescriptor (fT c k).2.2.1 = some (tyT c k) := by
  rcases (show c = 0 ∨ c = 1 ∨ c = 2 ∨ c = 3 ∨ c = 4 ∨ c = 5 ∨ c = 6 ∨ c = 7 by omega) with rfl | rfl | rfl | rfl | rfl | rfl | rfl | rfl
  · exact tyJ4_ok
  · exact tyX0_ok
  · exact tyX1_ok
  · exact tyX2_ok
  · exact tyX3_ok
  · exact tyX4_ok
  · exact tyX5_ok
  · exact tyX6_ok
theorem nmT {c : Nat} (hc : c < 8) : ∀ a, a < nf c → ∀ b, b < nf c → a ≠ b → (fT c a).2.1 ≠ (fT c b).2.1 := by
  rcases (show c = 0 ∨ c = 1 ∨ c = 2 ∨ c = 3 ∨ c = 4 ∨ c = 5 ∨ c = 6 ∨ c = 7 by omega) with rfl | rfl | rfl | rfl | rfl | rfl | rfl | rfl
  · exact nmJ4
  · exact nmX0
  · exact nmX1
  · exact nmX2
  · exact nmX3
  · exact nmX4
  · exact nmX5
  · exact nmX6
theorem ft_ty : ∀ c, c < 8 → ∀ k, k < nf c → (ft c k = 0 ∧ tyT c k = .int) ∨ (ft c k = 1 ∧ tyT c k = .boolean) ∨ (ft c k = 2 ∧ tyT c k = .byte) ∨ (ft c k = 3 ∧ refKind (tyT c k) = true) := by decide +kernel
theorem tag_lt : ∀ t, t < 48 → tk t = 0 → tc t < 8 := by decide +kernel
theorem tc_tk : ∀ t, t < 60 → ∀ c, c < 8 → tc t = c → tk t = 0 := by decide +kernel
/-- the world as a list -/
theorem ws_at {C : Ctx} {m : Mem} {n : Nat} (h : n < nX m) : (wsO C m)[n]? = some (cB0 C + n, entC C m (rgn m n) n) := by
  simp [wsO, h]
theorem ws_D {C : Ctx} (m : Mem) : va_D (cA C) (wsO C m) := by
  constructor
  · intro i j p q hi hj h
    have h1 : i < nX m := by have := (List.getElem?_eq_some_iff.mp hi).1; simpa [wsO] using this
    have h2 : j < nX m := by have := (List.getElem?_eq_some_iff.mp hj).1; simpa [wsO] using this
    rw [ws_at h1] at hi; rw [ws_at h2] at hj
    cases hi; cases hj
    exact Nat.add_left_cancel h
  · intro k q hq
    have h1 : k < nX m := by have := (List.getElem?_eq_some_iff.mp hq).1; simpa [wsO] using this
    rw [ws_at h1] at hq
    cases hq
    exact Nat.le_add_right _ _
theorem ws_set {C : Ctx} {m m' : Mem} {n : Nat} {e : va_E} (hX : nX m' = nX m) (he : entC C m' (rgn m' n) n = e) (ho : ∀ j, j < nX m → j ≠ n → entC C m' (rgn m' j) j = entC C m (rgn m j) j) : (wsO C m).set n (cB0 C + n, e) = wsO C m' := by
  apply List.ext_getElem?
  intro j
  by_cases hj : j < nX m
  · rw [ws_at (m := m') (by omega), List.getElem?_set]
    by_cases hn : n = j
    · subst hn
      rw [if_pos rfl, if_pos (by simpa [wsO] using hj), he]
    · rw [if_neg hn, ws_at hj, ho j hj (fun z => hn z.symm)]
  · rw [List.getElem?_eq_none (by simp [wsO]; omega), List.getElem?_eq_none (by simp [wsO]; omega)]
theorem gI_sI_same (m : Mem) (t n k : Nat) (x : Int32) : gI (sI m t n k x) t n k = x := by simp [gI, sI]
theorem gI_sI_n {m : Mem} {t n k : Nat} {x : Int32} {t' n' k' : Nat} (h : n' ≠ n) : gI (sI m t n k x) t' n' k' = gI m t' n' k' := by
  show (if k' = k then (if n' = n then (if t' = t then x else gI m t' n' k') else gI m t' n' k') else gI m t' n' k') = gI m t' n' k'
  rw [if_neg h]; split <;> rfl
theorem gI_sI_k {m : Mem} {t n k : Nat} {x : Int32} {t' n' k' : Nat} (h : k' ≠ k) : gI (sI m t n k x) t' n' k' = gI m t' n' k' := by
  show (if k' = k then (if n' = n then (if t' = t then x else gI m t' n' k') else gI m t' n' k') else gI m t' n' k') = gI m t' n' k'
  rw [if_neg h]
theorem gI_sI_t {m : Mem} {t n k : Nat} {x : Int32} {t' n' k' : Nat} (h : t' ≠ t) : gI (sI m t n k x) t' n' k' = gI m t' n' k' := by
  show (if k' = k then (if n' = n then (if t' = t then x else gI m t' n' k') else gI m t' n' k') else gI m t' n' k') = gI m t' n' k'
  rw [if_neg h]; split <;> (try split) <;> rfl
theorem gI_sI_row (m : Mem) (t n k : Nat) (x : Int32) : gI (sI m t n k x) t n = upd (gI m t n) k x := by
  funext j
  by_cases h : j = k
  · subst h; rw [gI_sI_same]; simp [upd]
  · rw [gI_sI_k h]; simp [upd, h]
theorem gP_sP_same (m : Mem) (t n k : Nat) (x : Option Rf) : gP (sP m t n k x) t n k = x := by simp [gP, sP]
theorem gP_sP_n {m : Mem} {t n k : Nat} {x : Option Rf} {t' n' k' : Nat} (h : n' ≠ n) : gP (sP m t n k x) t' n' k' = gP m t' n' k' := by
  show (if k' = k then (if n' = n then (if t' = t then x else gP m t' n' k') else gP m t' n' k') else gP m t' n' k') = gP m t' n' k'
  rw [if_neg h]; split <;> rfl
theorem gP_sP_k {m : Mem} {t n k : Nat} {x : Option Rf} {t' n' k' : Nat} (h : k' ≠ k) : gP (sP m t n k x) t' n' k' = gP m t' n' k' := by
  show (if k' = k then (if n' = n then (if t' = t then x else gP m t' n' k') else gP m t' n' k') else gP m t' n' k') = gP m t' n' k'
  rw [if_neg h]
theorem gP_sP_t {m : Mem} {t n k : Nat} {x : Option Rf} {t' n' k' : Nat} (h : t' ≠ t) : gP (sP m t n k x) t' n' k' = gP m t' n' k' := by
  show (if k' = k then (if n' = n then (if t' = t then x else gP m t' n' k') else gP m t' n' k') else gP m t' n' k') = gP m t' n' k'
  rw [if_neg h]; split <;> (try split) <;> rfl
theorem gP_sP_or {m : Mem} {t n k : Nat} {x : Option Rf} (t' n' k' : Nat) : gP (sP m t n k x) t' n' k' = x ∨ gP (sP m t n k x) t' n' k' = gP m t' n' k' := by
  show (if k' = k then (if n' = n then (if t' = t then x else gP m t' n' k') else gP m t' n' k') else gP m t' n' k') = x ∨ (if k' = k then (if n' = n then (if t' = t then x else gP m t' n' k') else gP m t' n' k') else gP m t' n' k') = gP m t' n' k'
  split
  · split
    · split
      · exact Or.inl rfl
      · exact Or.inr rfl
    · exact Or.inr rfl
  · exact Or.inr rfl
theorem entC_I {C : Ctx} {m : Mem} {t n k : Nat} {x : Int32} (t' j : Nat) (h : j ≠ n) : entC C (sI m t n k x) t' j = entC C m t' j := by
  have h1 : gI (sI m t n k x) t' j = gI m t' j := funext fun q => gI_sI_n h
  have h2 : fv C (sI m t n k x) t' j = fv C m t' j := by
    funext q
    unfold fv
    rw [h1]; rfl
  unfold entC
  rw [h1, h2]; rfl
theorem entC_P {C : Ctx} {m : Mem} {t n k : Nat} {x : Option Rf} (t' j : Nat) (h : j ≠ n) : entC C (sP m t n k x) t' j = entC C m t' j := by
  have h1 : gP (sP m t n k x) t' j = gP m t' j := funext fun q => gP_sP_n h
  have h2 : fv C (sP m t n k x) t' j = fv C m t' j := by
    funext q
    unfold fv
    rw [h1]; rfl
  unfold entC
  rw [h1, h2]; rfl
/-- an object's cell in the world -/
theorem ent_obj {C : Ctx} {m : Mem} {t n : Nat} (h : tk t = 0) : entC C m t n = .inr (tc t, (List.range (nf (tc t))).map (fv C m t n)) := by
  unfold entC; rw [h]; rfl
theorem ent_int {C : Ctx} {m : Mem} {t n : Nat} (h : tk t = 1) : entC C m t n = .inl (cIA C, (ln m t n, .inl (gI m t n))) := by
  unfold entC; rw [h]; rfl
theorem ent_byte {C : Ctx} {m : Mem} {t n : Nat} (h : tk t = 2) : entC C m t n = .inl (cBA C, (ln m t n, .inl (gI m t n))) := by
  unfold entC; rw [h]; rfl
theorem ent_ref {C : Ctx} {m : Mem} {t n : Nat} (h : tk t = 3) : entC C m t n = .inl (cNA C, (ln m t n, .inr (.inr (.inr (.inr (fun k => (gP m t n k).map (adr C))))))) := by
  unfold entC; rw [h]; rfl
theorem fs_set_I {C : Ctx} {m : Mem} {t n k : Nat} {x : Int32} (hk : ft (tc t) k ≠ 3) : ((List.range (nf (tc t))).map (fv C m t n)).set k (.int x) = (List.range (nf (tc t))).map (fv C (sI m t n k x) t n) := by
  apply List.ext_getElem?
  intro j
  rw [List.getElem?_set]
  by_cases hj : k = j
  · subst hj
    rw [if_pos rfl]
    by_cases hl : k < nf (tc t)
    · rw [if_pos (by simpa using hl)]
      simp [hl, fv, hk, gI_sI_same]
    · rw [if_neg (by simpa using hl), List.getElem?_eq_none (by simp; omega)]
  · rw [if_neg hj]
    by_cases hl : j < nf (tc t)
    · simp only [List.getElem?_map, List.getElem?_range hl, Option.map_some]
      unfold fv
      rw [gI_sI_k (fun z => hj z.symm)]; rfl
    · rw [List.getElem?_eq_none (by simp; omega), List.getElem?_eq_none (by simp; omega)]
theorem fs_set_P {C : Ctx} {m : Mem} {t n k : Nat} {x : Option Rf} (hk : ft (tc t) k = 3) : ((List.range (nf (tc t))).map (fv C m t n)).set k (tv C (vR x)) = (List.range (nf (tc t))).map (fv C (sP m t n k x) t n) := by
  apply List.ext_getElem?
  intro j
  rw [List.getElem?_set]
  by_cases hj : k = j
  · subst hj
    rw [if_pos rfl]
    by_cases hl : k < nf (tc t)
    · rw [if_pos (by simpa using hl)]
      simp [hl, fv, hk, gP_sP_same]
    · rw [if_neg (by simpa using hl), List.getElem?_eq_none (by simp; omega)]
  · rw [if_neg hj]
    by_cases hl : j < nf (tc t)
    · simp only [List.getElem?_map, List.getElem?_range hl, Option.map_some]
      unfold fv
      rw [gP_sP_k (fun z => hj z.symm)]; rfl
    · rw [List.getElem?_eq_none (by simp; omega), List.getElem?_eq_none (by simp; omega)]
theorem HR.at {C : Ctx} {m : Mem} {H : Heap} (h : HR C m H) {t n : Nat} (ha : okR m (t, n)) (ht : t < 60) : (wsO C m)[n]? = some (cB0 C + n, entC C m t n) ∧ n < nX m ∧ rgn m n = t ∧ t < 48 := by
  have h1 := ha.1 ht
  have h2 := (h.2.2.2 n h1.1).1
  have e : rgn m n = t := h1.2
  refine ⟨?_, h1.1, e, by rw [← e]; exact h2⟩
  rw [ws_at h1.1, e]
