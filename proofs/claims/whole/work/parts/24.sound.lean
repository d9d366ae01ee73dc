theorem st1_ok {md : Bool} {i : Nat} {e : Ent} {sl : List (Option SV)} {st : List SV} {m : Mem} {Q : Option SV → Mem → Prop} {K : Kt} (h282 : i < 282) (hrk : 1 ≤ rk i) (hlq : 40 ≤ lq i) (hok : okE i e = true) (hK : ∀ p l s m', K p l s m' → smE md i p l s m' Q) (h : st1 md i e sl st m Q K) : smE md i e.1 sl st m Q := by
  obtain ⟨pc, ins, n, r1, r2, r3, w, c, cl, ts⟩ := e
  simp only [okE, Bool.and_eq_true, decide_eq_true_eq] at hok
  obtain ⟨⟨hd, hn⟩, hi⟩ := hok
  cases ins with
  | iadd => exact x_iadd hd hn hi hK h
  | isub => exact x_isub hd hn hi hK h
  | imul => exact x_imul hd hn hi hK h
  | iand => exact x_iand hd hn hi hK h
  | ixor => exact x_ixor hd hn hi hK h
  | ishr => exact x_ishr hd hn hi hK h
  | ishl => exact x_ishl hd hn hi hK h
  | iushr => exact x_iushr hd hn hi hK h
  | idiv => exact x_idiv hd hn hi hK h
  | irem => exact x_irem hd hn hi hK h
  | ineg => exact x_ineg hd hn hi hK h
  | i2b => exact x_i2b hd hn hi hK h
  | i2c => exact x_i2c hd hn hi hK h
  | i2l => exact x_i2l hd hn hi hK h
  | l2i => exact x_l2i hd hn hi hK h
  | ladd => exact x_ladd hd hn hi hK h
  | lmul => exact x_lmul hd hn hi hK h
  | ldiv => exact x_ldiv hd hn hi hK h
  | lcmp => exact x_lcmp hd hn hi hK h
  | aconst_null => exact x_aconst_null hd hn hi hK h
  | dup => exact x_dup hd hn hi hK h
  | dup2 => exact x_dup2 hd hn hi hK h
  | dup_x1 => exact x_dup_x1 hd hn hi hK h
  | pop => exact x_pop hd hn hi hK h
  | arraylength => exact x_arraylength hd hn hi hK h
  | iaload => exact x_iaload hd hn hi hK h
  | baload => exact x_baload hd hn hi hK h
  | iastore => exact x_iastore hd hn hi hK h
  | bastore => exact x_bastore hd hn hi hK h
  | aaload => exact x_aaload hd hn hi hK h
  | aastore => exact x_aastore hd hn hi hK h
  | ireturn => exact x_ireturn hd hn hi hK h
  | lreturn => exact x_lreturn hd hn hi hK h
  | areturn => exact x_areturn hd hn hi hK h
  | return_ => exact x_return_ hd hn hi hK h
  | iconst v => exact x_iconst hd hn hi hK h
  | bipush v => exact x_bipush hd hn hi hK h
  | sipush v => exact x_sipush hd hn hi hK h
  | lconst v => exact x_lconst hd hn hi hK h
  | iload v => exact x_iload hd hn hi hK h
  | iload_n v => exact x_iload_n hd hn hi hK h
  | lload v => exact x_lload hd hn hi hK h
  | lload_n v => exact x_lload_n hd hn hi hK h
  | aload v => exact x_aload hd hn hi hK h
  | aload_n v => exact x_aload_n hd hn hi hK h
  | istore v => exact x_istore hd hn hi hK h
  | istore_n v => exact x_istore_n hd hn hi hK h
  | astore v => exact x_astore hd hn hi hK h
  | astore_n v => exact x_astore_n hd hn hi hK h
  | lstore v => exact x_lstore hd hn hi hK h
  | lstore_n v => exact x_lstore_n hd hn hi hK h
  | goto v => exact x_goto hd hn hi hK h
  | ifnull v => exact x_ifnull hd hn hi hK h
  | ifnonnull v => exact x_ifnonnull hd hn hi hK h
  | ifCond a b => exact x_ifCond hd hn hi hK h
  | if_icmp a b => exact x_if_icmp hd hn hi hK h
  | iinc a b => exact x_iinc hd hn hi hK h
  | tableswitch a b d e => exact x_tableswitch hd hn hi hK h
  | ldc v => exact x_ldc (mO_ok i h282) hd hn hi hK h
  | ldc_w v => exact x_ldc_w (mO_ok i h282) hd hn hi hK h
  | ldc2_w v => exact x_ldc2_w (mO_ok i h282) hd hn hi hK h
  | getstatic v => exact x_getstatic (mO_ok i h282) hd hn hi hK h
  | new v => exact x_new (mO_ok i h282) hd hn hi hK h
  | anewarray v => exact x_anewarray (mO_ok i h282) hd hn hi hK h
  | getfield v => exact x_getfield (mO_ok i h282) hd hn hi hK h
  | putfield v => exact x_putfield (mO_ok i h282) h282 hd hn hi hK h
  | invokestatic v => exact x_invokestatic (mO_ok i h282) hrk hlq hd hn hi hK h
  | invokespecial v => exact x_invokespecial (mO_ok i h282) hrk hlq hd hn hi hK h
  | invokevirtual v => exact x_invokevirtual (mO_ok i h282) hrk hlq hd hn hi hK h
  | newarray v =>
    cases v with
    | int => exact x_newarray_int hd hn hi hK h
    | byte => exact x_newarray_byte hd hn hi hK h
    | _ => exact h.elim
  | _ => exact h.elim
theorem wp_ok {md : Bool} {i : Nat} {cc : List (Nat × List Ent)} {stops : List Nat} {Q : Option SV → Mem → Prop} (h282 : i < 282) (hOK : OKm i) (hcc : cd i = cc) : ∀ (f pc : Nat) (sl : List (Option SV)) (st : List SV) (m : Mem), wp md i cc stops Q f pc sl st m → smE md i pc sl st m Q
  | 0, _, _, _, _, h => h.elim
  | f + 1, pc, sl, st, m, h => by
    unfold wp at h
    split at h
    · exact h.2
    · split at h
      · rename_i e he
        subst hcc
        obtain ⟨ch, h1, h2, rfl⟩ := fnd2_mem he
        exact st1_ok h282 hOK.1 hOK.2.1 (hOK.2.2 ch h1 e h2) (fun p l s m' hk => wp_ok h282 hOK rfl f p l s m' hk) h
      · exact h.elim
theorem wp1_ok {md : Bool} {i : Nat} {cc : List (Nat × List Ent)} {stops : List Nat} {Q : Option SV → Mem → Prop} (h282 : i < 282) (hOK : OKm i) (hcc : cd i = cc) {f pc : Nat} {sl : List (Option SV)} {st : List SV} {m : Mem} (h : wp1 md i cc stops Q f pc sl st m) : smE md i pc sl st m Q := by
  unfold wp1 at h
  split at h
  · rename_i e he
    subst hcc
    obtain ⟨ch, h1, h2, rfl⟩ := fnd2_mem he
    exact st1_ok h282 hOK.1 hOK.2.1 (hOK.2.2 ch h1 e h2) (fun p l s m' hk => wp_ok h282 hOK rfl f p l s m' hk) h
  · exact h.elim
/-- the locals at a method's entry -/
def enL : List SV → List (Option SV)
  | [] => []
  | .inr (.inl x) :: as => some (vL x) :: none :: enL as
  | .inl x :: as => some (vI x) :: enL as
  | .inr (.inr r) :: as => some (vR r) :: enL as
def entL (nL : Nat) (as : List SV) : List (Option SV) := enL as ++ List.replicate (nL - (enL as).length) none
theorem enL_args {C : Ctx} (hq : SQ C) : ∀ (as : List SV) (k j : Nat) (v : SV), (enL as)[j]? = some (some v) → (k + j, tv C v) ∈ lv_args k (as.map (tv C))
  | [], k, j, v, h => by simp [enL] at h
  | .inl x :: as, k, j, v, h => by
    simp only [enL] at h
    simp only [List.map_cons, lv_args]
    cases j with
    | zero => simp at h; subst h; exact List.mem_cons_self
    | succ j =>
      refine List.mem_cons_of_mem _ ?_
      have := enL_args hq as (k + 1) j v (by simpa using h)
      rw [show k + (j + 1) = k + 1 + j by omega]
      exact this
  | .inr (.inl x) :: as, k, j, v, h => by
    simp only [enL] at h
    simp only [List.map_cons, lv_args]
    match j, h with
    | 0, h => simp at h; subst h; exact List.mem_cons_self
    | 1, h => simp at h
    | j + 2, h =>
      refine List.mem_cons_of_mem _ ?_
      have := enL_args hq as (k + 2) j v (by simpa using h)
      rw [show k + (j + 2) = k + 2 + j by omega]
      exact this
  | .inr (.inr r) :: as, k, j, v, h => by
    simp only [enL] at h
    have hc : (tv C (.inr (.inr r))).category = 1 := (tv_cat hq _).trans rfl
    simp only [List.map_cons, lv_args, hc]
    cases j with
    | zero => simp at h; subst h; exact List.mem_cons_self
    | succ j =>
      refine List.mem_cons_of_mem _ ?_
      have := enL_args hq as (k + 1) j v (by simpa using h)
      rw [show k + (j + 1) = k + 1 + j by omega]
      exact this
theorem enL_okL {m : Mem} {nL : Nat} : ∀ {as : List SV}, okS m as → okL m (entL nL as) := by
  intro as h v hv
  have : ∀ as : List SV, okS m as → some v ∈ enL as → okV m v := by
    intro as
    induction as with
    | nil => intro _ h; simp [enL] at h
    | cons a as ih =>
      intro h hv
      match a, h, hv with
      | .inl x, h, hv =>
        simp only [enL, List.mem_cons, Option.some.injEq] at hv
        rcases hv with rfl | hv
        · trivial
        · exact ih (okS_cons.mp h).2 hv
      | .inr (.inl x), h, hv =>
        simp only [enL, List.mem_cons, Option.some.injEq] at hv
        rcases hv with rfl | hv | hv
        · trivial
        · cases hv
        · exact ih (okS_cons.mp h).2 hv
      | .inr (.inr r), h, hv =>
        simp only [enL, List.mem_cons, Option.some.injEq] at hv
        rcases hv with rfl | hv
        · exact (okS_cons.mp h).1
        · exact ih (okS_cons.mp h).2 hv
  rcases List.mem_append.mp hv with z | z
  · exact this as h z
  · exact absurd (List.eq_of_mem_replicate z) (by simp)
