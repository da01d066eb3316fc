/-! text: the class while it reads: what changes. -/
def k4 (C : aC) (τ : Bool) (A B E L : aG) : aC := (fun k => if k = 6 then A else if k = 3 then B else if k = 7 then E else if k = kL τ then L else C.1 k, C.2)
section EX3
variable {C : aC} {τ : Bool} {A B E L A' B' E' L' : aG}
theorem k4_6 : (k4 C τ A B E L).1 6 = A := rfl
theorem k4_3 : (k4 C τ A B E L).1 3 = B := rfl
theorem k4_7 : (k4 C τ A B E L).1 7 = E := rfl
theorem k4_0 : (k4 C τ A B E L).1 0 = C.1 0 := by cases τ <;> rfl
theorem k4_11 : (k4 C τ A B E L).1 11 = C.1 11 := by cases τ <;> rfl
theorem k4_L : (k4 C τ A B E L).1 (kL τ) = L := by cases τ <;> rfl
theorem k4_S {ρ : Bool} : (k4 C τ A B E L).1 (kS ρ) = C.1 (kS ρ) := by cases τ <;> cases ρ <;> rfl
theorem k4_2 : (k4 C τ A B E L).2 = C.2 := rfl
theorem k4_n {k : Nat} (h6 : k ≠ 6) (h3 : k ≠ 3) (h7 : k ≠ 7) (hL : k ≠ kL τ) : (k4 C τ A B E L).1 k = C.1 k := by
  show (if k = 6 then A else if k = 3 then B else if k = 7 then E else if k = kL τ then L else C.1 k) = _
  rw [if_neg h6, if_neg h3, if_neg h7, if_neg hL]
theorem k4_x {D : aC} (h2 : D.2 = C.2) (h6 : D.1 6 = A) (h3 : D.1 3 = B) (h7 : D.1 7 = E) (hL : D.1 (kL τ) = L) (hn : ∀ k, k ≠ 6 → k ≠ 3 → k ≠ 7 → k ≠ kL τ → D.1 k = C.1 k) : D = k4 C τ A B E L := by
  refine Prod.ext (funext fun k => ?_) h2
  show D.1 k = if k = 6 then A else if k = 3 then B else if k = 7 then E else if k = kL τ then L else C.1 k
  by_cases c6 : k = 6
  · rw [if_pos c6, c6, h6]
  · rw [if_neg c6]
    by_cases c3 : k = 3
    · rw [if_pos c3, c3, h3]
    · rw [if_neg c3]
      by_cases c7 : k = 7
      · rw [if_pos c7, c7, h7]
      · rw [if_neg c7]
        by_cases cL : k = kL τ
        · rw [if_pos cL, cL, hL]
        · rw [if_neg cL]
          exact hn k c6 c3 c7 cL
theorem kL_n : kL τ ≠ 6 ∧ kL τ ≠ 3 ∧ kL τ ≠ 7 ∧ kL τ ≠ 0 := by cases τ <;> decide
theorem k4_u6 : uG (k4 C τ A B E L) 6 A' = k4 C τ A' B E L := k4_x rfl uG_s (uG_n (by decide)) (uG_n (by decide)) ((uG_n kL_n.1).trans k4_L) (fun k a b c e => (uG_n a).trans (k4_n a b c e))
theorem k4_u3 : uG (k4 C τ A B E L) 3 B' = k4 C τ A B' E L := k4_x rfl (uG_n (by decide)) uG_s (uG_n (by decide)) ((uG_n kL_n.2.1).trans k4_L) (fun k a b c e => (uG_n b).trans (k4_n a b c e))
theorem k4_u7 : uG (k4 C τ A B E L) 7 E' = k4 C τ A B E' L := k4_x rfl (uG_n (by decide)) (uG_n (by decide)) uG_s ((uG_n kL_n.2.2.1).trans k4_L) (fun k a b c e => (uG_n c).trans (k4_n a b c e))
theorem k4_uL : uG (k4 C τ A B E L) (kL τ) L' = k4 C τ A B E L' := k4_x rfl (uG_n (Ne.symm kL_n.1)) (uG_n (Ne.symm kL_n.2.1)) (uG_n (Ne.symm kL_n.2.2.1)) uG_s (fun k a b c e => (uG_n e).trans (k4_n a b c e))
theorem k4_id : k4 C τ (C.1 6) (C.1 3) (C.1 7) (C.1 (kL τ)) = C := (k4_x rfl rfl rfl rfl rfl (fun k _ _ _ _ => rfl)).symm
theorem k4_fx {x : Nat} {σ : Bool} (h : fx x C σ) (hB : B.2 = (C.1 3).2) : fx x (k4 C τ A B E L) σ := by
  obtain ⟨h1, h2, h3, h4⟩ := h
  refine ⟨by rw [k4_0]; exact h1, by rw [k4_3, hB]; exact h2, by rw [k4_11]; exact h3, fun ρ => by rw [k4_S]; exact h4 ρ⟩
variable {H : ia_H} {x : Nat}
theorem tV_at : (tot H x C).2.2 (x + 82) = .inl (0, (C.1 7).2.1 0) := by
  have e : ia_put (tot H x C) (x + 82) 1 (cV (C.1 7)) = tot H x C := by rw [tq_V, uG_id]
  rw [← e]
  exact put_in 0 (by decide)
theorem tV_len : ∀ f : Int32 → Option ia_R, (ia_len (tot H x C) (x + 82)).bind f = f (nI ((C.1 7).2.1 0).length) := fun f => by
  unfold ia_len
  rw [tV_at]
  rfl
theorem tV_ldb (i : Int32) (f : Int32 → Option ia_R) : (ia_ald (tot H x C) (x + 82) 0 i).bind f = (rd ((C.1 7).2.1 0) i).bind f := bse (ald_of tV_at i) f
theorem tV_stb (i y : Int32) (f : ia_H → Option ia_R) : (ia_ast (tot H x C) (x + 82) 0 i y).bind f = (wr ((C.1 7).2.1 0) i y).bind fun l => f (tot H x (uG C 7 (gA (C.1 7) 0 l))) := by
  rw [ast_of tV_at]
  have hup : ∀ l, ia_up (tot H x C) (x + 82) (.inl (0, l)) = tot H x (uG C 7 (gA (C.1 7) 0 l)) := fun l => by
    rw [← tq_V]
    refine ia_ext rfl rfl fun k => ?_
    show (if k = x + 82 then (Sum.inl (0, l) : ia_E) else (tot H x C).2.2 k) = if x + 82 ≤ k ∧ k < x + 82 + 1 then cV (gA (C.1 7) 0 l) (k - (x + 82)) else (tot H x C).2.2 k
    by_cases c : k = x + 82
    · rw [if_pos c, if_pos (by omega), c, Nat.sub_self]
      rfl
    · rw [if_neg c, if_neg (by omega)]
  cases h : wr ((C.1 7).2.1 0) i y with
  | none => rfl
  | some l => exact congrArg f (hup l)
end EX3
