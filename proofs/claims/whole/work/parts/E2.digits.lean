/-! DIGITS, and a StringBuilder -/
def dg (v : Nat) : List Int := if h : v < 10 then [48 + (v : Int)] else dg (v / 10) ++ [48 + ((v % 10 : Nat) : Int)]
termination_by v
decreasing_by omega
theorem dg_lt {v : Nat} (h : v < 10) : dg v = [48 + (v : Int)] := by rw [dg, dif_pos h]
theorem dg_ge {v : Nat} (h : ¬ v < 10) : dg v = dg (v / 10) ++ [48 + ((v % 10 : Nat) : Int)] := by rw [dg, dif_neg h]
theorem dg_100 {v : Nat} (h : 100 ≤ v) : dg v = dg (v / 100) ++ [48 + ((v % 100 / 10 : Nat) : Int), 48 + ((v % 100 % 10 : Nat) : Int)] := by
  rw [dg_ge (by omega), dg_ge (v := v / 10) (by omega), show v / 10 / 10 = v / 100 by omega, show v / 10 % 10 = v % 100 / 10 by omega, show v % 10 = v % 100 % 10 by omega, List.append_assoc]
  rfl
def pwT : Nat → Nat
  | 0 => 1
  | n + 1 => 10 * pwT n
theorem pwT_pos : ∀ n, 1 ≤ pwT n
  | 0 => Nat.le_refl _
  | n + 1 => by have := pwT_pos n; unfold pwT; omega
theorem dg_len : ∀ (i v : Nat), v < pwT (i + 1) → (i = 0 ∨ pwT i ≤ v) → (dg v).length = i + 1
  | 0, v, h, _ => by
    have : v < 10 := h
    rw [dg_lt this]; rfl
  | i + 1, v, h, h2 => by
    have e1 : pwT (i + 1 + 1) = 10 * pwT (i + 1) := rfl
    have e2 : pwT (i + 1) = 10 * pwT i := rfl
    have hp := pwT_pos i
    have h3 : pwT (i + 1) ≤ v := by omega
    rw [dg_ge (by omega), List.length_append, dg_len i (v / 10) (by omega) (by omega)]
    rfl
theorem dg_le : ∀ (i v : Nat), v < pwT (i + 1) → (dg v).length ≤ i + 1
  | 0, v, h => by
    have : v < 10 := h
    rw [dg_lt this]; exact Nat.le_refl _
  | i + 1, v, h => by
    have e1 : pwT (i + 1 + 1) = 10 * pwT (i + 1) := rfl
    by_cases c : v < 10
    · rw [dg_lt c]; show 1 ≤ i + 1 + 1; omega
    · rw [dg_ge c, List.length_append]
      have := dg_le i (v / 10) (by omega)
      show (dg (v / 10)).length + 1 ≤ i + 1 + 1
      omega
theorem dg_pos (v : Nat) : 1 ≤ (dg v).length := by
  by_cases c : v < 10
  · rw [dg_lt c]; exact Nat.le_refl _
  · rw [dg_ge c, List.length_append]; show 1 ≤ _ + 1; omega
/-- characters -/
def chS (s : List Int) : Prop := ∀ x ∈ s, 32 ≤ x ∧ x ≤ 122
theorem chS.app {s r : List Int} (h : chS s) (h2 : chS r) : chS (s ++ r) := fun x hx => by
  rcases List.mem_append.mp hx with e | e
  · exact h x e
  · exact h2 x e
theorem chS.one {c : Int} (h : 32 ≤ c ∧ c ≤ 122) : chS [c] := fun x hx => by
  rw [List.mem_singleton.mp hx]; exact h
theorem dg_ch : ∀ (v : Nat), chS (dg v) := by
  intro v
  induction v using Nat.strongRecOn with
  | ind v ih =>
    by_cases c : v < 10
    · rw [dg_lt c]; exact chS.one (by omega)
    · rw [dg_ge c]; exact (ih (v / 10) (by omega)).app (chS.one (by omega))
theorem gd_mem {s : List Int} {k : Nat} (h : k < s.length) : s.getD k 0 ∈ s := by
  rw [List.getD_eq_getElem?_getD, List.getElem?_eq_getElem h]
  exact List.getElem_mem h
theorem gd_l {s r : List Int} {k : Nat} (h : k < s.length) : (s ++ r).getD k 0 = s.getD k 0 := by
  rw [List.getD_eq_getElem?_getD, List.getD_eq_getElem?_getD, List.getElem?_append_left h]
theorem gd_r {s r : List Int} {k : Nat} (h : s.length ≤ k) : (s ++ r).getD k 0 = r.getD (k - s.length) 0 := by
  rw [List.getD_eq_getElem?_getD, List.getD_eq_getElem?_getD, List.getElem?_append_right h]
theorem b8N : ∀ b : Nat, b < 128 → (iZ b).toInt8.toInt32 = iZ b := by decide +kernel
theorem b8 {c : Int} (h : 0 ≤ c ∧ c < 128) : (iZ c).toInt8.toInt32 = iZ c := by
  have := b8N c.toNat (by omega)
  rwa [Int.toNat_of_nonneg h.1] at this
theorem a255N : ∀ b : Nat, b < 128 → iZ b &&& 255 = iZ b := by decide +kernel
theorem a255 {c : Int} (h : 0 ≤ c ∧ c < 128) : iZ c &&& 255 = iZ c := by
  have := a255N c.toNat (by omega)
  rwa [Int.toNat_of_nonneg h.1] at this
theorem dgt : ∀ k : Nat, k < 100 → stT 64 0 k = iZ (48 + ((k % 10 : Nat) : Int)) ∧ stT 64 1 k = iZ (48 + ((k / 10 : Nat) : Int)) := by decide +kernel
theorem iZ_ndiv {v : Nat} (h : v < 100000000) : iZ (-(v : Int)) / 100 = iZ (-((v / 100 : Nat) : Int)) := by
  rw [L100]
  apply iZ_inj
  rw [Int32.toInt_div, iZ_toInt (by constructor <;> omega), iZ_toInt (by decide), Int.neg_tdiv, Int.tdiv_eq_ediv_of_nonneg (by omega)]
  rw [Int.bmod_eq_of_le (by omega) (by omega)]
  omega
theorem sh16 : nI 16 >>> ((0 : Int32) &&& 31) = iZ 16 := by decide
theorem okm_266 : okM1 266 = true := by decide +kernel
theorem OK_266 : OKm 266 := OKm_of okm_266
theorem okm_271 : okM1 271 = true := by decide +kernel
theorem OK_271 : OKm 271 := OKm_of okm_271
theorem okm_275 : okM1 275 = true := by decide +kernel
theorem OK_275 : OKm 275 := OKm_of okm_275
theorem okm_277 : okM1 277 = true := by decide +kernel
theorem OK_277 : OKm 277 := OKm_of okm_277
theorem okm_278 : okM1 278 = true := by decide +kernel
theorem OK_278 : OKm 278 := OKm_of okm_278
theorem OB_267 : OKb 267 [2] := OKb_of (by decide +kernel)
theorem OB_268 : OKb 268 [2] := OKb_of (by decide +kernel)
theorem OB_269 : OKb 269 [1] := OKb_of (by decide +kernel)
theorem OB_270 : OKb 270 [2] := OKb_of (by decide +kernel)
theorem OB_272 : OKb 272 [7, 11, 46] := OKb_of (by decide +kernel)
theorem OB_273 : OKb 273 [24] := OKb_of (by decide +kernel)
theorem OB_276 : OKb 276 [14, 18] := OKb_of (by decide +kernel)
/-- a StringBuilder n over the bytes b holds s -/
def SBR (m : Mem) (n b : Nat) (s : List Int) : Prop := (gP m 22 n 0 = some (21, b) ∧ gI m 22 n 1 = 0 ∧ gI m 22 n 3 = iZ s.length ∧ gL m 21 b = 16) ∧ ∀ k, k < s.length → gI m 21 b k = iZ (s.getD k 0)
def AS : Nat → Nat → Nat → Prop := fun t _ _ => t = 21 ∨ t = 22
section SB
variable {m m' : Mem} {K : Option SV → Mem → Prop} {n b : Nat} {s : List Int} {c : Int}
theorem c_sbInit (hn : n < nX m) (h1 : gI m 22 n 3 = 0) (hk : ∀ m', SBR m' n (nX m) [] → FX AS AS m m' → nX m' = nX m + 1 → nS m' = nS m + 16 → K none m') : smC true 266 [vR (some (22, n))] m K := by
  refine smC_wp [some (vR (some (22, n)))] cd_266 [] 40 OK_266 (by decide) rfl rfl (Nat.le_of_ble_eq_true rfl) ?_
  have h271 : ∀ {Q : Option SV → Mem → Prop}, (∀ m', SBR m' n (nX m) [] → FX AS AS m m' → nX m' = nX m + 1 → nS m' = nS m + 16 → Q none m') → smC true 271 [vR (some (22, n)), vI 16] m Q := by
    intro Q hQ
    refine smC_wp [some (vR (some (22, n))), some (vI 16)] cd_271 [] 40 OK_271 (by decide) rfl rfl (Nat.le_of_ble_eq_true rfl) ?_
    refine And.intro (fun z => absurd z (by decide)) (fun _ => ?_)
    refine And.intro ⟨by decide, by decide⟩ ?_
    refine And.intro (by decide) ?_
    refine And.intro trivial ?_
    have e16 : (16 : Int32).toNatClampNeg = 16 := by decide
    rw [e16]
    refine hQ _ ⟨⟨?_, ?_, ?_, ?_⟩, fun k hk => absurd hk (Nat.not_lt_zero _)⟩ ?_ rfl rfl
    · show gP (sP (al m 21 16) 22 n 0 (some (21, nX m))) 22 n 0 = _
      rw [gP_s, if_pos ⟨rfl, rfl, rfl⟩]
    · rw [gI_s, if_pos ⟨rfl, rfl, rfl⟩]
    · rw [gI_s, if_neg (by omega), gI_sP]
      exact ((FX.al (A := N3) (B := N3)).2.1 22 n 3 hn (fun q => q)).trans h1
    · show gL (al m 21 16) 21 (nX m) = 16
      show (if nX m = nX m then (if 21 < 60 then 16 else gL m 21 (nX m)) else gL m 21 (nX m)) = 16
      rw [if_pos rfl, if_pos (by decide)]
    · exact (FX.al.tr (FX.stP (Or.inr rfl))).tr (FX.stI (Or.inr rfl))
  refine And.intro trivial (h271 (fun m' a1 a2 a3 a4 => ?_))
  exact And.intro trivial (hk m' a1 a2 a3 a4)
theorem c_ens {z : Int} {x : Int32} (hx : x = iZ z) (hz : 0 ≤ z ∧ z ≤ 16) (hR : SBR m n b s) (h : K none m) : smC true 273 [vR (some (22, n)), vI x] m K := by
  subst hx
  refine smC_wpB [some (vR (some (22, n))), some (vI (iZ z)), none] cd_273 [24] 40 OB_273 (by decide) rfl rfl (Nat.le_of_ble_eq_true rfl) ?_
  refine Exists.intro _ (And.intro hR.1.1 ?_)
  refine And.intro (fun _ => And.intro trivial h) (fun y => ?_)
  have y : ¬ iZ z - (nI (gL m 21 b) >>> (gI m 22 n 1 &&& 31)) ≤ 0 := y
  rw [hR.1.2.1, hR.1.2.2.2, sh16, iZ_sub, L0, iZ_le (by constructor <;> omega) (by decide)] at y
  omega
theorem c_lat (hR : SBR m n b s) (h : K (some (vI 1)) m) : smC true 275 [vR (some (22, n))] m K := by
  refine smC_wp [some (vR (some (22, n)))] cd_275 [] 40 OK_275 (by decide) rfl rfl (Nat.le_of_ble_eq_true rfl) ?_
  refine And.intro (fun z => absurd z (by decide)) (fun _ => ?_)
  refine And.intro (fun z => absurd hR.1.2.1 z) (fun _ => ?_)
  exact And.intro (Or.inr rfl) h
theorem c_enc {x : Int32} (hx : x = iZ c) (hc : 0 ≤ c ∧ c < 128) (h : K (some (vI 1)) m) : smC true 265 [vI x] m K := by
  subst hx
  refine smC_wp [some (vI (iZ c))] cd_265 [] 20 OK_265 (by decide) rfl rfl (Nat.le_of_ble_eq_true rfl) ?_
  refine And.intro (fun z => ?_) (fun _ => ?_)
  · rw [L255, iZ_lt (by decide) (by constructor <;> omega)] at z; omega
  exact And.intro (Or.inr rfl) h
set_option maxRecDepth 20000 in
theorem w1016 : tables_1[1016]? = some (.methodLink ASBn 100 (mN 273)) := rfl
set_option maxRecDepth 20000 in
theorem w1041 : tables_1[1041]? = some (.methodLink ASBn 83 (mN 275)) := rfl
set_option maxRecDepth 20000 in
theorem w1013 : tables_1[1013]? = some (.methodLink SBn 50 (mN 272)) := rfl
set_option maxRecDepth 20000 in
theorem w1081 : tables_1[1081]? = some (.methodLink SBn 53 (mN 276)) := rfl
set_option maxRecDepth 20000 in
theorem w1106 : tables_1[1106]? = some (.methodLink SBn 343 (mN 277)) := rfl
set_option maxRecDepth 20000 in
theorem w1113 : tables_1[1113]? = some (.methodLink SBn 329 (mN 278)) := rfl
set_option maxRecDepth 20000 in
theorem y273 : YTok (273, 1019, 16, 3, 1018, 0) := ⟨rfl, rfl, rfl⟩
set_option maxRecDepth 20000 in
theorem y275 : YTok (275, 1045, 16, 3, 1042, 0) := ⟨rfl, rfl, rfl⟩
set_option maxRecDepth 20000 in
theorem y272 : YTok (272, 1015, 16, 3, 1014, 0) := ⟨rfl, rfl, rfl⟩
set_option maxRecDepth 20000 in
theorem y276 : YTok (276, 1083, 16, 3, 1082, 0) := ⟨rfl, rfl, rfl⟩
set_option maxRecDepth 20000 in
theorem y277 : YTok (277, 1108, 16, 3, 1107, 0) := ⟨rfl, rfl, rfl⟩
set_option maxRecDepth 20000 in
theorem y278 : YTok (278, 1115, 16, 3, 1114, 0) := ⟨rfl, rfl, rfl⟩
theorem d272_7 : decode (mB 272) 7 = .ok (.invokevirtual 100, 3) := by decide +kernel
theorem d272_11 : decode (mB 272) 11 = .ok (.invokevirtual 83, 3) := by decide +kernel
theorem d276_14 : decode (mB 276) 14 = .ok (.invokevirtual 100, 3) := by decide +kernel
theorem d276_18 : decode (mB 276) 18 = .ok (.invokevirtual 83, 3) := by decide +kernel
theorem d267_2 : decode (mB 267) 2 = .ok (.invokespecial 50, 3) := by decide +kernel
theorem d268_2 : decode (mB 268) 2 = .ok (.invokespecial 53, 3) := by decide +kernel
theorem d269_1 : decode (mB 269) 1 = .ok (.invokespecial 343, 3) := by decide +kernel
theorem d270_2 : decode (mB 270) 2 = .ok (.invokespecial 329, 3) := by decide +kernel
theorem SBR.put (h : SBR m n b s) (hs : s.length < 16) : SBR (sI (sI m 22 n 3 (iZ ((s.length + 1 : Nat) : Int))) 21 b s.length (iZ c)) n b (s ++ [c]) := by
  obtain ⟨⟨h1, h2, h3, h4⟩, h5⟩ := h
  refine ⟨⟨h1, ?_, ?_, h4⟩, fun k hk => ?_⟩
  · simp only [gI_s]; simp; exact h2
  · simp only [gI_s]; simp
  · simp only [List.length_append, List.length_cons, List.length_nil] at hk
    rw [gI_s]
    by_cases e : k = s.length
    · subst e
      rw [if_pos ⟨rfl, rfl, rfl⟩, gd_r (Nat.le_refl _), Nat.sub_self]
      rfl
    · rw [if_neg (by omega), gI_s, if_neg (by omega), gd_l (by omega)]
      exact h5 k (by omega)
theorem c_appC {x : Int32} (hx : x = iZ c) (hc : 32 ≤ c ∧ c ≤ 122) (hs : s.length < 16) (hR : SBR m n b s) (hk : ∀ m', SBR m' n b (s ++ [c]) → Fr AS m m' → K (some (vR (some (22, n)))) m') : smC true 267 [vR (some (22, n)), vI x] m K := by
  subst hx
  have el : gI m 22 n 3 + 1 = iZ ((s.length + 1 : Nat) : Int) := by rw [hR.1.2.2.1, L1, iZ_add]; congr 1
  have h272 : ∀ {Q : Option SV → Mem → Prop}, (∀ m', SBR m' n b (s ++ [c]) → Fr AS m m' → Q (some (vR (some (22, n)))) m') → smC true 272 [vR (some (22, n)), vI (iZ c)] m Q := by
    intro Q hQ
    refine smC_wpB [some (vR (some (22, n))), some (vI (iZ c))] cd_272 [7, 11, 46] 40 OB_272 (by decide) rfl rfl (Nat.le_of_ble_eq_true rfl) ?_
    refine And.intro trivial ?_
    rw [el]
    refine E_vup (as0 := [vI (iZ ((s.length + 1 : Nat) : Int))]) (s0 := []) (by decide) (c_ens rfl (by omega) hR ?_) rfl (by decide) rfl d272_7 w1016 y273 (by decide) (by decide) (by decide) se273
    refine wpB_ok (by decide) OB_272 (cc := cd_272) rfl 40 _ _ _ _ ?_
    refine And.intro trivial ?_
    refine E_vup (as0 := []) (s0 := []) (by decide) (c_lat hR ?_) rfl (by decide) rfl d272_11 w1041 y275 (by decide) (by decide) (by decide) se275
    refine wpB_ok (by decide) OB_272 (cc := cd_272) rfl 40 _ _ _ _ ?_
    refine And.intro (fun z => absurd z (by decide)) (fun _ => ?_)
    refine And.intro trivial (c_enc rfl (by omega) ?_)
    refine And.intro (fun z => absurd z (by decide)) (fun _ => ?_)
    refine Exists.intro _ (And.intro hR.1.1 ?_)
    have hin : vp_in (iZ (s.length : Int)) 16 := (iZ_in (by constructor <;> omega)).mpr (by omega)
    have ec : (iZ (s.length : Int)).toNatClampNeg = s.length := by rw [iZ_clamp (by constructor <;> omega)]; omega
    refine And.intro ?_ ?_
    · show vp_in (gI m 22 n 3) (gL m 21 b)
      rw [hR.1.2.2.1, hR.1.2.2.2]; exact hin
    refine And.intro trivial ?_
    rw [el, hR.1.2.2.1, ec, b8 (by omega), b8 (by omega)]
    exact hQ _ (hR.put hs) ((Fr.st (Or.inr rfl)).tr (Fr.st (Or.inl rfl)))
  refine smC_wpB [some (vR (some (22, n))), some (vI (iZ c))] cd_267 [2] 40 OB_267 (by decide) rfl rfl (Nat.le_of_ble_eq_true rfl) ?_
  refine And.intro trivial ?_
  refine E_sup (as0 := [vI (iZ c)]) (s0 := []) (by decide +kernel) (by decide +kernel) (by decide +kernel) (h272 (fun m' a1 a2 => ?_)) rfl (by decide) rfl d267_2 w1013 y272 (by decide) (by decide) (by decide)
  refine wpB_ok (by decide) OB_267 (cc := cd_267) rfl 40 _ _ _ _ ?_
  exact And.intro trivial (hk m' a1 a2)
theorem c_sbLen (hR : SBR m n b s) (h : K (some (vI (iZ s.length))) m) : smC true 269 [vR (some (22, n))] m K := by
  have h277 : ∀ {Q : Option SV → Mem → Prop}, Q (some (vI (iZ s.length))) m → smC true 277 [vR (some (22, n))] m Q := by
    intro Q hQ
    refine smC_wp [some (vR (some (22, n)))] cd_277 [] 40 OK_277 (by decide) rfl rfl (Nat.le_of_ble_eq_true rfl) ?_
    refine And.intro trivial ?_
    rw [hR.1.2.2.1]; exact hQ
  refine smC_wpB [some (vR (some (22, n)))] cd_269 [1] 40 OB_269 (by decide) rfl rfl (Nat.le_of_ble_eq_true rfl) ?_
  refine And.intro trivial ?_
  refine E_sup (as0 := []) (s0 := []) (by decide +kernel) (by decide +kernel) (by decide +kernel) (h277 ?_) rfl (by decide) rfl d269_1 w1106 y277 (by decide) (by decide) (by decide)
  refine wpB_ok (by decide) OB_269 (cc := cd_269) rfl 40 _ _ _ _ ?_
  exact And.intro trivial h
theorem c_sbAt {k : Nat} {x : Int32} (hx : x = iZ k) (hk' : k < s.length) (hs : s.length ≤ 16) (hch : chS s) (hR : SBR m n b s) (h : K (some (vI (iZ (s.getD k 0)))) m) : smC true 270 [vR (some (22, n)), vI x] m K := by
  subst hx
  have hc := hch _ (gd_mem hk')
  have ec : (iZ (k : Int)).toNatClampNeg = k := by rw [iZ_clamp (by constructor <;> omega)]; omega
  have h278 : ∀ {Q : Option SV → Mem → Prop}, Q (some (vI (iZ (s.getD k 0)))) m → smC true 278 [vR (some (22, n)), vI (iZ k)] m Q := by
    intro Q hQ
    refine smC_wp [some (vR (some (22, n))), some (vI (iZ k)), none, none, none] cd_278 [] 60 OK_278 (by decide) rfl rfl (Nat.le_of_ble_eq_true rfl) ?_
    refine Exists.intro _ (And.intro hR.1.1 ?_)
    have e16 : nI (gL m 21 b) >>> (gI m 22 n 1 &&& 31) = iZ 16 := by rw [hR.1.2.1, hR.1.2.2.2]; exact sh16
    refine And.intro trivial (c_minZ (p := (s.length : Int)) (q := 16) hR.1.2.2.1 e16 (by constructor <;> omega) (by decide) ?_)
    refine And.intro trivial (c_checkIndex (j := (k : Int)) (l := min (s.length : Int) 16) rfl rfl (by constructor <;> omega) (by constructor <;> omega) (by omega) ?_)
    refine And.intro (fun z => absurd hR.1.2.1 z) (fun _ => ?_)
    refine And.intro ?_ ?_
    · show vp_in (iZ (k : Int)) (gL m 21 b)
      rw [hR.1.2.2.2]; exact (iZ_in (by constructor <;> omega)).mpr (by omega)
    rw [ec, hR.2 k hk']
    have e2 : (((iZ (s.getD k 0) &&& 255).toUInt32 % 65536).toInt32) = iZ (s.getD k 0) := by rw [a255 (by omega), ch_ok (by omega) (by omega)]
    refine And.intro ?_ ?_
    · rw [e2]; exact ch_ok (by omega) (by omega)
    · rw [e2]; exact hQ
  refine smC_wpB [some (vR (some (22, n))), some (vI (iZ k))] cd_270 [2] 40 OB_270 (by decide) rfl rfl (Nat.le_of_ble_eq_true rfl) ?_
  refine And.intro trivial ?_
  refine E_sup (as0 := [vI (iZ k)]) (s0 := []) (by decide +kernel) (by decide +kernel) (by decide +kernel) (h278 ?_) rfl (by decide) rfl d270_2 w1113 y278 (by decide) (by decide) (by decide)
  refine wpB_ok (by decide) OB_270 (cc := cd_270) rfl 40 _ _ _ _ ?_
  exact And.intro (ch_ok (by omega) (by omega)) h
end SB
