/-! Constructors: cells made one after another. -/
def hbB (g : Nat → ia_E) (x s : Nat) (L : List ia_E) : ia_H := (x + L.length, s, fun k => if x ≤ k ∧ k < x + L.length then L.getD (k - x) ia_dead else g k)
section JX0
variable {g : Nat → ia_E} {x s : Nat} {L L0 R : List ia_E} {o e : ia_E}
theorem hb_new {n : Nat} : ia_new (hbB g x s L) n e = hbB g x (s + n) (L ++ [e]) := by
  refine ia_ext ?_ rfl fun k => ?_
  · show x + L.length + 1 = x + (L ++ [e]).length
    rw [List.length_append, List.length_singleton]; rfl
  · show (if k = x + L.length then e else if x ≤ k ∧ k < x + L.length then L.getD (k - x) ia_dead else g k) = if x ≤ k ∧ k < x + (L ++ [e]).length then (L ++ [e]).getD (k - x) ia_dead else g k
    rw [List.length_append, List.length_singleton]
    by_cases c : k = x + L.length
    · rw [if_pos c, if_pos (by omega), c, Nat.add_sub_cancel_left, List.getD_eq_getElem?_getD, List.getElem?_append_right (Nat.le_refl _), Nat.sub_self]
      rfl
    · rw [if_neg c]
      by_cases c2 : x ≤ k ∧ k < x + L.length
      · rw [if_pos c2, if_pos (by omega), List.getD_eq_getElem?_getD, List.getD_eq_getElem?_getD, List.getElem?_append_left (by omega)]
      · rw [if_neg c2, if_neg (by omega)]
theorem hb_at : (hbB g x s (L0 ++ o :: R)).2.2 (x + L0.length) = o := by
  show (if x ≤ x + L0.length ∧ x + L0.length < x + (L0 ++ o :: R).length then (L0 ++ o :: R).getD (x + L0.length - x) ia_dead else _) = o
  rw [List.length_append, List.length_cons, if_pos (by omega), Nat.add_sub_cancel_left, List.getD_eq_getElem?_getD, List.getElem?_append_right (Nat.le_refl _), Nat.sub_self]
  rfl
theorem hb_up : ia_up (hbB g x s (L0 ++ o :: R)) (x + L0.length) e = hbB g x s (L0 ++ e :: R) := by
  refine ia_ext ?_ rfl fun k => ?_
  · show x + (L0 ++ o :: R).length = x + (L0 ++ e :: R).length
    rw [List.length_append, List.length_append, List.length_cons, List.length_cons]
  · show (if k = x + L0.length then e else if x ≤ k ∧ k < x + (L0 ++ o :: R).length then (L0 ++ o :: R).getD (k - x) ia_dead else g k) = if x ≤ k ∧ k < x + (L0 ++ e :: R).length then (L0 ++ e :: R).getD (k - x) ia_dead else g k
    have l1 : (L0 ++ o :: R).length = L0.length + (R.length + 1) := by rw [List.length_append, List.length_cons]
    have l2 : (L0 ++ e :: R).length = L0.length + (R.length + 1) := by rw [List.length_append, List.length_cons]
    rw [l1, l2]
    by_cases c : k = x + L0.length
    · rw [if_pos c, if_pos (by omega), c, Nat.add_sub_cancel_left, List.getD_eq_getElem?_getD, List.getElem?_append_right (Nat.le_refl _), Nat.sub_self]
      rfl
    · rw [if_neg c]
      by_cases c2 : x ≤ k ∧ k < x + (L0.length + (R.length + 1))
      · rw [if_pos c2, if_pos c2, List.getD_eq_getElem?_getD, List.getD_eq_getElem?_getD]
        by_cases c3 : k - x < L0.length
        · rw [List.getElem?_append_left c3, List.getElem?_append_left c3]
        · rw [List.getElem?_append_right (by omega), List.getElem?_append_right (by omega)]
          obtain ⟨j, hj⟩ : ∃ j, k - x - L0.length = j + 1 := ⟨k - x - L0.length - 1, by omega⟩
          rw [hj]; rfl
      · rw [if_neg c2, if_neg c2]
theorem hb_pf {ci k : Nat} {fs : List Value} {v : Value} (hk : k < fs.length) (f : ia_H → Option ia_R) : (ia_putf (hbB g x s (L0 ++ .inr (.inr (ci, fs)) :: R)) (x + L0.length) ci k v).bind f = f (hbB g x s (L0 ++ .inr (.inr (ci, fs.set k v)) :: R)) := by
  rw [putf_of hb_at (by exact hk), hb_up]
  rfl
theorem hb_1 : (hbB g x s (L0 ++ o :: R)).1 = x + (L0.length + (R.length + 1)) := by
  show x + (L0 ++ o :: R).length = _
  rw [List.length_append, List.length_cons]
theorem hb_n {n : Nat} : ia_new (hbB g x s (L0 ++ o :: R)) n e = hbB g x (s + n) (L0 ++ o :: (R ++ [e])) := by
  rw [hb_new, List.append_assoc]
  rfl
end JX0
