/-! THE MODEL's reader: bodies and the signs above them -/
def bodG (g : Nat → Int32) (bd u d : Int) : Nat → Int32 := fun w => if w = 10 then iZ bd else if w = 13 then iZ u else if w = 14 then iZ d else g w
theorem bodyF_no {tp : Nat → Int} {t : TK} : ∀ f, f ≤ 8 → (∀ v, 9 ≤ v → v ≤ 16 → ¬ isW tp v t = true) → bodyF tp t f = 0
  | 0, _, _ => rfl
  | f + 1, hf, h => by
    unfold bodyF
    rw [if_neg (h (16 - f) (by omega) (by omega)), bodyF_no f (by omega) h]
theorem bodyF_w {tp : Nat → Int} {t : TK} {w : Nat} (h : isW tp w t = true) (h9 : 9 ≤ w ∧ w ≤ 16) : ∀ f, f ≤ 8 → 17 - f ≤ w → bodyF tp t f = (w : Int) - 8
  | 0, _, hw => by omega
  | f + 1, hf, hw => by
    unfold bodyF
    by_cases e : w = 16 - f
    · subst e; rw [if_pos h]; omega
    · rw [if_neg (fun u => e (isW_one (by omega) (by omega) h u)), bodyF_w h h9 f (by omega) (by omega)]
section MRB
variable {m : Mem} {K : Option SV → Mem → Prop} {tp : Nat → Int} {n r : Nat} {t : TK} {g : Nat → Int32}
theorem M_prefixR1 {x : Int32} (h0 : MBad m) (h : K none m) : smC true 158 [vR (some (23, 231)), vI x] m K := by
  refine smC_wp [some (vR (some (23, 231))), some (vI x), none] cd_158 [] 60 OK_158 (by decide) rfl rfl (Nat.le_of_ble_eq_true rfl) ?_
  refine And.intro trivial (M_passes1 (k := 6) rfl (by decide) h0 ?_)
  refine And.intro (fun _ => ?_) (fun u => absurd rfl u)
  refine And.intro trivial (M_passes1 (k := 7) rfl (by decide) h0 ?_)
  refine And.intro (fun _ => ?_) (fun u => absurd rfl u)
  refine And.intro trivial (M_passes1 (k := 8) rfl (by decide) h0 ?_)
  refine And.intro (fun _ => ?_) (fun u => absurd rfl u)
  exact And.intro trivial h
theorem M_word1' (h0 : MBad m) (h : K (some (vI (iZ 21))) m) : smC true 139 [vR (some (23, 231))] m K := by
  obtain ⟨e, f1, he⟩ := id h0
  exact M_word1 f1.1 (by have := he.1; omega) (by have := he.1; have := he.2; constructor <;> omega) h
theorem bodG_u {bd u d v : Int} : ∀ w, w < 30 → upd (bodG g bd u d) 13 (iZ v) w = bodG g bd v d w := by
  intro w hw
  unfold bodG upd
  by_cases e : w = 13
  · subst e; simp
  · rw [if_neg e]; dsimp only; rw [if_neg e, if_neg e]
theorem bodG_d {bd u d v : Int} : ∀ w, w < 30 → upd (bodG g bd u d) 14 (iZ v) w = bodG g bd u v w := by
  intro w hw
  unfold bodG upd
  by_cases e : w = 14
  · subst e; simp
  · rw [if_neg e]; dsimp only; rw [if_neg e, if_neg e]
theorem bodG_b {bd u d v : Int} : ∀ w, w < 30 → upd (bodG g bd u d) 10 (iZ v) w = bodG g v u d w := by
  intro w hw
  unfold bodG upd
  by_cases e : w = 10
  · subst e; simp
  · rw [if_neg e]; dsimp only; rw [if_neg e, if_neg e]
end MRB
