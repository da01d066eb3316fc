/-! Regions by class (written by program). aG: ints, rows of small numbers, longs, rows of longs, references. -/
abbrev aG : Type := (Nat → Int32) × (Nat → List Int32) × (Nat → Int64) × (Nat → List Int64) × (Nat → Nat)
def gI (X : aG) (k : Nat) (v : Int32) : aG := (va_up X.1 k v, X.2)
def gA (X : aG) (k : Nat) (l : List Int32) : aG := (X.1, va_up X.2.1 k l, X.2.2)
def gJ (X : aG) (k : Nat) (v : Int64) : aG := (X.1, X.2.1, va_up X.2.2.1 k v, X.2.2.2)
def gB (X : aG) (k : Nat) (l : List Int64) : aG := (X.1, X.2.1, X.2.2.1, va_up X.2.2.2.1 k l, X.2.2.2.2)
def gR (X : aG) (k : Nat) (v : Nat) : aG := (X.1, X.2.1, X.2.2.1, X.2.2.2.1, va_up X.2.2.2.2 k v)
theorem up_s {α : Type} {f : Nat → α} {k : Nat} {v : α} : va_up f k v k = v := by
  show (if k = k then v else f k) = v
  rw [if_pos rfl]
theorem up_n {α : Type} {f : Nat → α} {k j : Nat} {v : α} (h : j ≠ k) : va_up f k v j = f j := by
  show (if j = k then v else f j) = f j
  rw [if_neg h]
theorem up_u {α : Type} {f : Nat → α} {k : Nat} {v w : α} : va_up (va_up f k v) k w = va_up f k w := by
  funext j
  show (if j = k then w else if j = k then v else f j) = if j = k then w else f j
  by_cases h : j = k
  · rw [if_pos h, if_pos h]
  · rw [if_neg h, if_neg h, if_neg h]
theorem up_id {α : Type} {f : Nat → α} {k : Nat} : va_up f k (f k) = f := by
  funext j
  show (if j = k then f k else f j) = f j
  by_cases h : j = k
  · rw [if_pos h, h]
  · rw [if_neg h]
section TH
variable {h : ia_H} {a n k : Nat} {f : Nat → ia_E} (hk : k < a ∨ a + n ≤ k)
theorem th_cls (hk : k < a ∨ a + n ≤ k) : ia_cls (ia_put h a n f) k = ia_cls h k := by unfold ia_cls; rw [put_out hk]
theorem th_getI (hk : k < a ∨ a + n ≤ k) (c s : Nat) : ia_getI (ia_put h a n f) k c s = ia_getI h k c s := by unfold ia_getI; rw [put_out hk]
theorem th_getR (hk : k < a ∨ a + n ≤ k) (c s : Nat) : ia_getR (ia_put h a n f) k c s = ia_getR h k c s := by unfold ia_getR; rw [put_out hk]
theorem th_getL (hk : k < a ∨ a + n ≤ k) (c s : Nat) : ia_getL (ia_put h a n f) k c s = ia_getL h k c s := by unfold ia_getL; rw [put_out hk]
theorem th_ald (hk : k < a ∨ a + n ≤ k) (tg : Nat) (i : Int32) : ia_ald (ia_put h a n f) k tg i = ia_ald h k tg i := by unfold ia_ald; rw [put_out hk]
theorem th_lald (hk : k < a ∨ a + n ≤ k) (i : Int32) : ia_lald (ia_put h a n f) k i = ia_lald h k i := by unfold ia_lald; rw [put_out hk]
theorem th_len (hk : k < a ∨ a + n ≤ k) : ia_len (ia_put h a n f) k = ia_len h k := by unfold ia_len; rw [put_out hk]
theorem th_up (hk : k < a ∨ a + n ≤ k) (e : ia_E) : ia_up (ia_put h a n f) k e = ia_put (ia_up h k e) a n f := by
  refine ia_ext rfl rfl fun j => ?_
  show (if j = k then e else if a ≤ j ∧ j < a + n then f (j - a) else h.2.2 j) = if a ≤ j ∧ j < a + n then f (j - a) else (if j = k then e else h.2.2 j)
  by_cases hj : j = k
  · rw [if_pos hj, if_neg (by omega), if_pos hj]
  · rw [if_neg hj, if_neg hj]
theorem th_ast (hk : k < a ∨ a + n ≤ k) (tg : Nat) (i x : Int32) : ia_ast (ia_put h a n f) k tg i x = (ia_ast h k tg i x).map fun g => ia_put g a n f := by
  unfold ia_ast
  rw [put_out hk]
  split
  · split
    · split
      · rfl
      · split
        · rw [th_up hk]; rfl
        · rfl
    · rfl
  · rfl
theorem th_last (hk : k < a ∨ a + n ≤ k) (i : Int32) (x : Int64) : ia_last (ia_put h a n f) k i x = (ia_last h k i x).map fun g => ia_put g a n f := by
  unfold ia_last
  rw [put_out hk]
  split
  · split
    · rfl
    · split
      · rw [th_up hk]; rfl
      · rfl
  · rfl
theorem th_putf (hk : k < a ∨ a + n ≤ k) (c s : Nat) (v : Value) : ia_putf (ia_put h a n f) k c s v = (ia_putf h k c s v).map fun g => ia_put g a n f := by
  unfold ia_putf
  rw [put_out hk]
  split
  · split
    · split
      · rw [th_up hk]; rfl
      · rfl
    · rfl
  · rfl
end TH
section THW
variable {h : ia_H} {a k : Nat} {X : aW}
theorem thW_cls (hk : k < a ∨ a + 13 ≤ k)  : ia_cls (pW h a X) k = ia_cls h k := th_cls hk
theorem thW_getI (hk : k < a ∨ a + 13 ≤ k) (c s : Nat) : ia_getI (pW h a X) k c s = ia_getI h k c s := th_getI hk c s
theorem thW_getR (hk : k < a ∨ a + 13 ≤ k) (c s : Nat) : ia_getR (pW h a X) k c s = ia_getR h k c s := th_getR hk c s
theorem thW_getL (hk : k < a ∨ a + 13 ≤ k) (c s : Nat) : ia_getL (pW h a X) k c s = ia_getL h k c s := th_getL hk c s
theorem thW_ald (hk : k < a ∨ a + 13 ≤ k) (tg : Nat) (i : Int32) : ia_ald (pW h a X) k tg i = ia_ald h k tg i := th_ald hk tg i
theorem thW_lald (hk : k < a ∨ a + 13 ≤ k) (i : Int32) : ia_lald (pW h a X) k i = ia_lald h k i := th_lald hk i
theorem thW_len (hk : k < a ∨ a + 13 ≤ k)  : ia_len (pW h a X) k = ia_len h k := th_len hk
theorem thW_ast (hk : k < a ∨ a + 13 ≤ k) (tg : Nat) (i x : Int32) : ia_ast (pW h a X) k tg i x = (ia_ast h k tg i x).map fun g => pW g a X := th_ast hk tg i x
theorem thW_last (hk : k < a ∨ a + 13 ≤ k) (i : Int32) (x : Int64) : ia_last (pW h a X) k i x = (ia_last h k i x).map fun g => pW g a X := th_last hk i x
theorem thW_putf (hk : k < a ∨ a + 13 ≤ k) (c s : Nat) (v : Value) : ia_putf (pW h a X) k c s v = (ia_putf h k c s v).map fun g => pW g a X := th_putf hk c s v
end THW
/-- EngagedTone$Laws: ints 0 knots, 1 written; rows 0 kinds, 1 numbers, 2 starts, 3 ends, 0 meanings, 1 values; longs ; references  -/
def cL (a : Nat) (X : aG) : Nat → ia_E
  | 0 => .inr (.inr (3, [.int (X.1 0), .int (X.1 1), .ref (a + 1), .ref (a + 2), .ref (a + 3), .ref (a + 4), .ref (a + 5), .ref (a + 6)]))
  | 1 => .inl (0, X.2.1 0)
  | 2 => .inl (0, X.2.1 1)
  | 3 => .inl (0, X.2.1 2)
  | 4 => .inl (0, X.2.1 3)
  | 5 => .inr (.inl (X.2.2.2.1 0))
  | 6 => .inr (.inl (X.2.2.2.1 1))
  | _ => ia_dead
def pL (h : ia_H) (a : Nat) (X : aG) : ia_H := ia_put h a 7 (cL a X)
section GL
variable (h : ia_H) (a : Nat) (X : aG)
theorem pL_obj : (pL h a X).2.2 a = cL a X 0 := put_in0 (by decide)
theorem pL_cls : ia_cls (pL h a X) a = 3 := cls_of (pL_obj h a X)
theorem pL_I : ia_getI (pL h a X) a 3 0 = some (X.1 0) ∧ ia_getI (pL h a X) a 3 1 = some (X.1 1) :=
  ⟨getI_of (pL_obj h a X) rfl, getI_of (pL_obj h a X) rfl⟩
theorem pL_R : ia_getR (pL h a X) a 3 2 = some (a + 1) ∧ ia_getR (pL h a X) a 3 3 = some (a + 2) ∧ ia_getR (pL h a X) a 3 4 = some (a + 3) ∧ ia_getR (pL h a X) a 3 5 = some (a + 4) ∧ ia_getR (pL h a X) a 3 6 = some (a + 5) ∧ ia_getR (pL h a X) a 3 7 = some (a + 6) :=
  ⟨getR_of (pL_obj h a X) rfl, getR_of (pL_obj h a X) rfl, getR_of (pL_obj h a X) rfl, getR_of (pL_obj h a X) rfl, getR_of (pL_obj h a X) rfl, getR_of (pL_obj h a X) rfl⟩
theorem pL_ld : (∀ i, ia_ald (pL h a X) (a + 1) 0 i = rd (X.2.1 0) i) ∧ (∀ i, ia_ald (pL h a X) (a + 2) 0 i = rd (X.2.1 1) i) ∧ (∀ i, ia_ald (pL h a X) (a + 3) 0 i = rd (X.2.1 2) i) ∧ (∀ i, ia_ald (pL h a X) (a + 4) 0 i = rd (X.2.1 3) i) :=
  ⟨ald_of (put_in 1 (by decide)), ald_of (put_in 2 (by decide)), ald_of (put_in 3 (by decide)), ald_of (put_in 4 (by decide))⟩
theorem pL_ll : (∀ i, ia_lald (pL h a X) (a + 5) i = rd (X.2.2.2.1 0) i) ∧ (∀ i, ia_lald (pL h a X) (a + 6) i = rd (X.2.2.2.1 1) i) :=
  ⟨lald_of (put_in 5 (by decide)), lald_of (put_in 6 (by decide))⟩
theorem pL_a1 (l : List Int32) : ia_up (pL h a X) (a + 1) (.inl (0, l)) = pL h a (gA X 0 l) := by
  unfold pL
  rw [up_put 1 (by decide)]
  congr 1
  funext j
  match j with
  | 0 => rfl
  | 1 => rfl
  | 2 => rfl
  | 3 => rfl
  | 4 => rfl
  | 5 => rfl
  | 6 => rfl
  | j + 7 => rfl
theorem pL_a2 (l : List Int32) : ia_up (pL h a X) (a + 2) (.inl (0, l)) = pL h a (gA X 1 l) := by
  unfold pL
  rw [up_put 2 (by decide)]
  congr 1
  funext j
  match j with
  | 0 => rfl
  | 1 => rfl
  | 2 => rfl
  | 3 => rfl
  | 4 => rfl
  | 5 => rfl
  | 6 => rfl
  | j + 7 => rfl
theorem pL_a3 (l : List Int32) : ia_up (pL h a X) (a + 3) (.inl (0, l)) = pL h a (gA X 2 l) := by
  unfold pL
  rw [up_put 3 (by decide)]
  congr 1
  funext j
  match j with
  | 0 => rfl
  | 1 => rfl
  | 2 => rfl
  | 3 => rfl
  | 4 => rfl
  | 5 => rfl
  | 6 => rfl
  | j + 7 => rfl
theorem pL_a4 (l : List Int32) : ia_up (pL h a X) (a + 4) (.inl (0, l)) = pL h a (gA X 3 l) := by
  unfold pL
  rw [up_put 4 (by decide)]
  congr 1
  funext j
  match j with
  | 0 => rfl
  | 1 => rfl
  | 2 => rfl
  | 3 => rfl
  | 4 => rfl
  | 5 => rfl
  | 6 => rfl
  | j + 7 => rfl
theorem pL_b5 (l : List Int64) : ia_up (pL h a X) (a + 5) (.inr (.inl l)) = pL h a (gB X 0 l) := by
  unfold pL
  rw [up_put 5 (by decide)]
  congr 1
  funext j
  match j with
  | 0 => rfl
  | 1 => rfl
  | 2 => rfl
  | 3 => rfl
  | 4 => rfl
  | 5 => rfl
  | 6 => rfl
  | j + 7 => rfl
theorem pL_b6 (l : List Int64) : ia_up (pL h a X) (a + 6) (.inr (.inl l)) = pL h a (gB X 1 l) := by
  unfold pL
  rw [up_put 6 (by decide)]
  congr 1
  funext j
  match j with
  | 0 => rfl
  | 1 => rfl
  | 2 => rfl
  | 3 => rfl
  | 4 => rfl
  | 5 => rfl
  | 6 => rfl
  | j + 7 => rfl
theorem pL_st : (∀ i x, ia_ast (pL h a X) (a + 1) 0 i x = (wr (X.2.1 0) i x).map fun l => pL h a (gA X 0 l)) ∧ (∀ i x, ia_ast (pL h a X) (a + 2) 0 i x = (wr (X.2.1 1) i x).map fun l => pL h a (gA X 1 l)) ∧ (∀ i x, ia_ast (pL h a X) (a + 3) 0 i x = (wr (X.2.1 2) i x).map fun l => pL h a (gA X 2 l)) ∧ (∀ i x, ia_ast (pL h a X) (a + 4) 0 i x = (wr (X.2.1 3) i x).map fun l => pL h a (gA X 3 l)) :=
  ⟨(fun i x => by rw [ast_of (show (pL h a X).2.2 (a + 1) = .inl (0, X.2.1 0) from put_in 1 (by decide))]; congr 1; funext l; exact pL_a1 h a X l), (fun i x => by rw [ast_of (show (pL h a X).2.2 (a + 2) = .inl (0, X.2.1 1) from put_in 2 (by decide))]; congr 1; funext l; exact pL_a2 h a X l), (fun i x => by rw [ast_of (show (pL h a X).2.2 (a + 3) = .inl (0, X.2.1 2) from put_in 3 (by decide))]; congr 1; funext l; exact pL_a3 h a X l), (fun i x => by rw [ast_of (show (pL h a X).2.2 (a + 4) = .inl (0, X.2.1 3) from put_in 4 (by decide))]; congr 1; funext l; exact pL_a4 h a X l)⟩
theorem pL_ls : (∀ i x, ia_last (pL h a X) (a + 5) i x = (wr (X.2.2.2.1 0) i x).map fun l => pL h a (gB X 0 l)) ∧ (∀ i x, ia_last (pL h a X) (a + 6) i x = (wr (X.2.2.2.1 1) i x).map fun l => pL h a (gB X 1 l)) :=
  ⟨(fun i x => by rw [last_of (show (pL h a X).2.2 (a + 5) = .inr (.inl (X.2.2.2.1 0)) from put_in 5 (by decide))]; congr 1; funext l; exact pL_b5 h a X l), (fun i x => by rw [last_of (show (pL h a X).2.2 (a + 6) = .inr (.inl (X.2.2.2.1 1)) from put_in 6 (by decide))]; congr 1; funext l; exact pL_b6 h a X l)⟩
theorem pL_o (X2 : aG) (fs : List Value) (h0 : cL a X2 0 = .inr (.inr (3, fs))) (h1 : ∀ j, cL a X2 (j + 1) = cL a X (j + 1)) : ia_up (pL h a X) a (.inr (.inr (3, fs))) = pL h a X2 := by
  unfold pL
  rw [up_put0 (by decide)]
  congr 1
  funext j
  match j with
  | 0 => exact h0.symm
  | j + 1 => exact (h1 j).symm
theorem cL_t {a : Nat} {X X2 : aG} (h1 : X2.2.1 = X.2.1) (h2 : X2.2.2.2.1 = X.2.2.2.1) (j : Nat) : cL a X2 (j + 1) = cL a X (j + 1) := by
  match j with
  | 0 => simp only [cL, h1, h2]
  | 1 => simp only [cL, h1, h2]
  | 2 => simp only [cL, h1, h2]
  | 3 => simp only [cL, h1, h2]
  | 4 => simp only [cL, h1, h2]
  | 5 => simp only [cL, h1, h2]
  | _ + 6 => rfl
theorem pL_pf : (∀ v, ia_putf (pL h a X) a 3 0 (.int v) = some (pL h a (gI X 0 v))) ∧ (∀ v, ia_putf (pL h a X) a 3 1 (.int v) = some (pL h a (gI X 1 v))) :=
  ⟨(fun v => by rw [putf_of (pL_obj h a X) (Nat.le_of_ble_eq_true rfl)]; exact congrArg some (pL_o h a X (gI X 0 v) _ rfl (cL_t rfl rfl))), (fun v => by rw [putf_of (pL_obj h a X) (Nat.le_of_ble_eq_true rfl)]; exact congrArg some (pL_o h a X (gI X 1 v) _ rfl (cL_t rfl rfl)))⟩
end GL
section THL
variable {h : ia_H} {a k : Nat} {X : aG}
theorem thL_cls (hk : k < a ∨ a + 7 ≤ k)  : ia_cls (pL h a X) k = ia_cls h k := th_cls hk
theorem thL_getI (hk : k < a ∨ a + 7 ≤ k) (c s : Nat) : ia_getI (pL h a X) k c s = ia_getI h k c s := th_getI hk c s
theorem thL_getR (hk : k < a ∨ a + 7 ≤ k) (c s : Nat) : ia_getR (pL h a X) k c s = ia_getR h k c s := th_getR hk c s
theorem thL_getL (hk : k < a ∨ a + 7 ≤ k) (c s : Nat) : ia_getL (pL h a X) k c s = ia_getL h k c s := th_getL hk c s
theorem thL_ald (hk : k < a ∨ a + 7 ≤ k) (tg : Nat) (i : Int32) : ia_ald (pL h a X) k tg i = ia_ald h k tg i := th_ald hk tg i
theorem thL_lald (hk : k < a ∨ a + 7 ≤ k) (i : Int32) : ia_lald (pL h a X) k i = ia_lald h k i := th_lald hk i
theorem thL_len (hk : k < a ∨ a + 7 ≤ k)  : ia_len (pL h a X) k = ia_len h k := th_len hk
theorem thL_ast (hk : k < a ∨ a + 7 ≤ k) (tg : Nat) (i x : Int32) : ia_ast (pL h a X) k tg i x = (ia_ast h k tg i x).map fun g => pL g a X := th_ast hk tg i x
theorem thL_last (hk : k < a ∨ a + 7 ≤ k) (i : Int32) (x : Int64) : ia_last (pL h a X) k i x = (ia_last h k i x).map fun g => pL g a X := th_last hk i x
theorem thL_putf (hk : k < a ∨ a + 7 ≤ k) (c s : Nat) (v : Value) : ia_putf (pL h a X) k c s v = (ia_putf h k c s v).map fun g => pL g a X := th_putf hk c s v
end THL
/-- EngagedTone$Script: ints 0 people, 1 prices, 2 lines, 3 tries, 4 seed; rows 0 name, 1 vain, 2 priceFrom, 3 pricePence; longs ; references 0 first, 1 laws -/
def cS (a : Nat) (X : aG) : Nat → ia_E
  | 0 => .inr (.inr (6, [.int (X.1 0), .ref (a + 1), .ref (a + 2), .int (X.1 1), .ref (a + 3), .ref (a + 4), .int (X.1 2), .int (X.1 3), .int (X.1 4), .ref (X.2.2.2.2 0), .ref (X.2.2.2.2 1)]))
  | 1 => .inl (0, X.2.1 0)
  | 2 => .inl (0, X.2.1 1)
  | 3 => .inl (0, X.2.1 2)
  | 4 => .inl (0, X.2.1 3)
  | _ => ia_dead
def pS (h : ia_H) (a : Nat) (X : aG) : ia_H := ia_put h a 5 (cS a X)
section GS
variable (h : ia_H) (a : Nat) (X : aG)
theorem pS_obj : (pS h a X).2.2 a = cS a X 0 := put_in0 (by decide)
theorem pS_cls : ia_cls (pS h a X) a = 6 := cls_of (pS_obj h a X)
theorem pS_I : ia_getI (pS h a X) a 6 0 = some (X.1 0) ∧ ia_getI (pS h a X) a 6 3 = some (X.1 1) ∧ ia_getI (pS h a X) a 6 6 = some (X.1 2) ∧ ia_getI (pS h a X) a 6 7 = some (X.1 3) ∧ ia_getI (pS h a X) a 6 8 = some (X.1 4) :=
  ⟨getI_of (pS_obj h a X) rfl, getI_of (pS_obj h a X) rfl, getI_of (pS_obj h a X) rfl, getI_of (pS_obj h a X) rfl, getI_of (pS_obj h a X) rfl⟩
theorem pS_R : ia_getR (pS h a X) a 6 1 = some (a + 1) ∧ ia_getR (pS h a X) a 6 2 = some (a + 2) ∧ ia_getR (pS h a X) a 6 4 = some (a + 3) ∧ ia_getR (pS h a X) a 6 5 = some (a + 4) ∧ ia_getR (pS h a X) a 6 9 = some (X.2.2.2.2 0) ∧ ia_getR (pS h a X) a 6 10 = some (X.2.2.2.2 1) :=
  ⟨getR_of (pS_obj h a X) rfl, getR_of (pS_obj h a X) rfl, getR_of (pS_obj h a X) rfl, getR_of (pS_obj h a X) rfl, getR_of (pS_obj h a X) rfl, getR_of (pS_obj h a X) rfl⟩
theorem pS_ld : (∀ i, ia_ald (pS h a X) (a + 1) 0 i = rd (X.2.1 0) i) ∧ (∀ i, ia_ald (pS h a X) (a + 2) 0 i = rd (X.2.1 1) i) ∧ (∀ i, ia_ald (pS h a X) (a + 3) 0 i = rd (X.2.1 2) i) ∧ (∀ i, ia_ald (pS h a X) (a + 4) 0 i = rd (X.2.1 3) i) :=
  ⟨ald_of (put_in 1 (by decide)), ald_of (put_in 2 (by decide)), ald_of (put_in 3 (by decide)), ald_of (put_in 4 (by decide))⟩
theorem pS_a1 (l : List Int32) : ia_up (pS h a X) (a + 1) (.inl (0, l)) = pS h a (gA X 0 l) := by
  unfold pS
  rw [up_put 1 (by decide)]
  congr 1
  funext j
  match j with
  | 0 => rfl
  | 1 => rfl
  | 2 => rfl
  | 3 => rfl
  | 4 => rfl
  | j + 5 => rfl
theorem pS_a2 (l : List Int32) : ia_up (pS h a X) (a + 2) (.inl (0, l)) = pS h a (gA X 1 l) := by
  unfold pS
  rw [up_put 2 (by decide)]
  congr 1
  funext j
  match j with
  | 0 => rfl
  | 1 => rfl
  | 2 => rfl
  | 3 => rfl
  | 4 => rfl
  | j + 5 => rfl
theorem pS_a3 (l : List Int32) : ia_up (pS h a X) (a + 3) (.inl (0, l)) = pS h a (gA X 2 l) := by
  unfold pS
  rw [up_put 3 (by decide)]
  congr 1
  funext j
  match j with
  | 0 => rfl
  | 1 => rfl
  | 2 => rfl
  | 3 => rfl
  | 4 => rfl
  | j + 5 => rfl
theorem pS_a4 (l : List Int32) : ia_up (pS h a X) (a + 4) (.inl (0, l)) = pS h a (gA X 3 l) := by
  unfold pS
  rw [up_put 4 (by decide)]
  congr 1
  funext j
  match j with
  | 0 => rfl
  | 1 => rfl
  | 2 => rfl
  | 3 => rfl
  | 4 => rfl
  | j + 5 => rfl
theorem pS_st : (∀ i x, ia_ast (pS h a X) (a + 1) 0 i x = (wr (X.2.1 0) i x).map fun l => pS h a (gA X 0 l)) ∧ (∀ i x, ia_ast (pS h a X) (a + 2) 0 i x = (wr (X.2.1 1) i x).map fun l => pS h a (gA X 1 l)) ∧ (∀ i x, ia_ast (pS h a X) (a + 3) 0 i x = (wr (X.2.1 2) i x).map fun l => pS h a (gA X 2 l)) ∧ (∀ i x, ia_ast (pS h a X) (a + 4) 0 i x = (wr (X.2.1 3) i x).map fun l => pS h a (gA X 3 l)) :=
  ⟨(fun i x => by rw [ast_of (show (pS h a X).2.2 (a + 1) = .inl (0, X.2.1 0) from put_in 1 (by decide))]; congr 1; funext l; exact pS_a1 h a X l), (fun i x => by rw [ast_of (show (pS h a X).2.2 (a + 2) = .inl (0, X.2.1 1) from put_in 2 (by decide))]; congr 1; funext l; exact pS_a2 h a X l), (fun i x => by rw [ast_of (show (pS h a X).2.2 (a + 3) = .inl (0, X.2.1 2) from put_in 3 (by decide))]; congr 1; funext l; exact pS_a3 h a X l), (fun i x => by rw [ast_of (show (pS h a X).2.2 (a + 4) = .inl (0, X.2.1 3) from put_in 4 (by decide))]; congr 1; funext l; exact pS_a4 h a X l)⟩
theorem pS_o (X2 : aG) (fs : List Value) (h0 : cS a X2 0 = .inr (.inr (6, fs))) (h1 : ∀ j, cS a X2 (j + 1) = cS a X (j + 1)) : ia_up (pS h a X) a (.inr (.inr (6, fs))) = pS h a X2 := by
  unfold pS
  rw [up_put0 (by decide)]
  congr 1
  funext j
  match j with
  | 0 => exact h0.symm
  | j + 1 => exact (h1 j).symm
theorem cS_t {a : Nat} {X X2 : aG} (h1 : X2.2.1 = X.2.1) (h2 : X2.2.2.2.1 = X.2.2.2.1) (j : Nat) : cS a X2 (j + 1) = cS a X (j + 1) := by
  match j with
  | 0 => simp only [cS, h1, h2]
  | 1 => simp only [cS, h1, h2]
  | 2 => simp only [cS, h1, h2]
  | 3 => simp only [cS, h1, h2]
  | _ + 4 => rfl
theorem pS_pf : (∀ v, ia_putf (pS h a X) a 6 0 (.int v) = some (pS h a (gI X 0 v))) ∧ (∀ v, ia_putf (pS h a X) a 6 3 (.int v) = some (pS h a (gI X 1 v))) ∧ (∀ v, ia_putf (pS h a X) a 6 6 (.int v) = some (pS h a (gI X 2 v))) ∧ (∀ v, ia_putf (pS h a X) a 6 7 (.int v) = some (pS h a (gI X 3 v))) ∧ (∀ v, ia_putf (pS h a X) a 6 8 (.int v) = some (pS h a (gI X 4 v))) ∧ (∀ v, ia_putf (pS h a X) a 6 9 (.ref v) = some (pS h a (gR X 0 v))) ∧ (∀ v, ia_putf (pS h a X) a 6 10 (.ref v) = some (pS h a (gR X 1 v))) :=
  ⟨(fun v => by rw [putf_of (pS_obj h a X) (Nat.le_of_ble_eq_true rfl)]; exact congrArg some (pS_o h a X (gI X 0 v) _ rfl (cS_t rfl rfl))), (fun v => by rw [putf_of (pS_obj h a X) (Nat.le_of_ble_eq_true rfl)]; exact congrArg some (pS_o h a X (gI X 1 v) _ rfl (cS_t rfl rfl))), (fun v => by rw [putf_of (pS_obj h a X) (Nat.le_of_ble_eq_true rfl)]; exact congrArg some (pS_o h a X (gI X 2 v) _ rfl (cS_t rfl rfl))), (fun v => by rw [putf_of (pS_obj h a X) (Nat.le_of_ble_eq_true rfl)]; exact congrArg some (pS_o h a X (gI X 3 v) _ rfl (cS_t rfl rfl))), (fun v => by rw [putf_of (pS_obj h a X) (Nat.le_of_ble_eq_true rfl)]; exact congrArg some (pS_o h a X (gI X 4 v) _ rfl (cS_t rfl rfl))), (fun v => by rw [putf_of (pS_obj h a X) (Nat.le_of_ble_eq_true rfl)]; exact congrArg some (pS_o h a X (gR X 0 v) _ rfl (cS_t rfl rfl))), (fun v => by rw [putf_of (pS_obj h a X) (Nat.le_of_ble_eq_true rfl)]; exact congrArg some (pS_o h a X (gR X 1 v) _ rfl (cS_t rfl rfl)))⟩
end GS
section THS
variable {h : ia_H} {a k : Nat} {X : aG}
theorem thS_cls (hk : k < a ∨ a + 5 ≤ k)  : ia_cls (pS h a X) k = ia_cls h k := th_cls hk
theorem thS_getI (hk : k < a ∨ a + 5 ≤ k) (c s : Nat) : ia_getI (pS h a X) k c s = ia_getI h k c s := th_getI hk c s
theorem thS_getR (hk : k < a ∨ a + 5 ≤ k) (c s : Nat) : ia_getR (pS h a X) k c s = ia_getR h k c s := th_getR hk c s
theorem thS_getL (hk : k < a ∨ a + 5 ≤ k) (c s : Nat) : ia_getL (pS h a X) k c s = ia_getL h k c s := th_getL hk c s
theorem thS_ald (hk : k < a ∨ a + 5 ≤ k) (tg : Nat) (i : Int32) : ia_ald (pS h a X) k tg i = ia_ald h k tg i := th_ald hk tg i
theorem thS_lald (hk : k < a ∨ a + 5 ≤ k) (i : Int32) : ia_lald (pS h a X) k i = ia_lald h k i := th_lald hk i
theorem thS_len (hk : k < a ∨ a + 5 ≤ k)  : ia_len (pS h a X) k = ia_len h k := th_len hk
theorem thS_ast (hk : k < a ∨ a + 5 ≤ k) (tg : Nat) (i x : Int32) : ia_ast (pS h a X) k tg i x = (ia_ast h k tg i x).map fun g => pS g a X := th_ast hk tg i x
theorem thS_last (hk : k < a ∨ a + 5 ≤ k) (i : Int32) (x : Int64) : ia_last (pS h a X) k i x = (ia_last h k i x).map fun g => pS g a X := th_last hk i x
theorem thS_putf (hk : k < a ∨ a + 5 ≤ k) (c s : Nat) (v : Value) : ia_putf (pS h a X) k c s v = (ia_putf h k c s v).map fun g => pS g a X := th_putf hk c s v
end THS
/-- EngagedTone$Exchange: ints 0 lines, 1 tries, 2 isFree, 3 silent, 4 isDrawing; rows ; longs 0 drawn; references 0 script -/
def cE (a : Nat) (X : aG) : Nat → ia_E
  | 0 => .inr (.inr (1, [.ref (X.2.2.2.2 0), .int (X.1 0), .int (X.1 1), .int (X.1 2), .int (X.1 3), .int (X.1 4), .long (X.2.2.1 0)]))
  | _ => ia_dead
def pE (h : ia_H) (a : Nat) (X : aG) : ia_H := ia_put h a 1 (cE a X)
section GE
variable (h : ia_H) (a : Nat) (X : aG)
theorem pE_obj : (pE h a X).2.2 a = cE a X 0 := put_in0 (by decide)
theorem pE_cls : ia_cls (pE h a X) a = 1 := cls_of (pE_obj h a X)
theorem pE_I : ia_getI (pE h a X) a 1 1 = some (X.1 0) ∧ ia_getI (pE h a X) a 1 2 = some (X.1 1) ∧ ia_getI (pE h a X) a 1 3 = some (X.1 2) ∧ ia_getI (pE h a X) a 1 4 = some (X.1 3) ∧ ia_getI (pE h a X) a 1 5 = some (X.1 4) :=
  ⟨getI_of (pE_obj h a X) rfl, getI_of (pE_obj h a X) rfl, getI_of (pE_obj h a X) rfl, getI_of (pE_obj h a X) rfl, getI_of (pE_obj h a X) rfl⟩
theorem pE_J : ia_getL (pE h a X) a 1 6 = some (X.2.2.1 0) :=
  getL_of (pE_obj h a X) rfl
theorem pE_R : ia_getR (pE h a X) a 1 0 = some (X.2.2.2.2 0) :=
  getR_of (pE_obj h a X) rfl
theorem pE_o (X2 : aG) (fs : List Value) (h0 : cE a X2 0 = .inr (.inr (1, fs))) (h1 : ∀ j, cE a X2 (j + 1) = cE a X (j + 1)) : ia_up (pE h a X) a (.inr (.inr (1, fs))) = pE h a X2 := by
  unfold pE
  rw [up_put0 (by decide)]
  congr 1
  funext j
  match j with
  | 0 => exact h0.symm
  | j + 1 => exact (h1 j).symm
theorem pE_pf : (∀ v, ia_putf (pE h a X) a 1 1 (.int v) = some (pE h a (gI X 0 v))) ∧ (∀ v, ia_putf (pE h a X) a 1 2 (.int v) = some (pE h a (gI X 1 v))) ∧ (∀ v, ia_putf (pE h a X) a 1 3 (.int v) = some (pE h a (gI X 2 v))) ∧ (∀ v, ia_putf (pE h a X) a 1 4 (.int v) = some (pE h a (gI X 3 v))) ∧ (∀ v, ia_putf (pE h a X) a 1 5 (.int v) = some (pE h a (gI X 4 v))) ∧ (∀ v, ia_putf (pE h a X) a 1 6 (.long v) = some (pE h a (gJ X 0 v))) ∧ (∀ v, ia_putf (pE h a X) a 1 0 (.ref v) = some (pE h a (gR X 0 v))) :=
  ⟨(fun v => by rw [putf_of (pE_obj h a X) (Nat.le_of_ble_eq_true rfl)]; exact congrArg some (pE_o h a X (gI X 0 v) _ rfl (fun j => rfl))), (fun v => by rw [putf_of (pE_obj h a X) (Nat.le_of_ble_eq_true rfl)]; exact congrArg some (pE_o h a X (gI X 1 v) _ rfl (fun j => rfl))), (fun v => by rw [putf_of (pE_obj h a X) (Nat.le_of_ble_eq_true rfl)]; exact congrArg some (pE_o h a X (gI X 2 v) _ rfl (fun j => rfl))), (fun v => by rw [putf_of (pE_obj h a X) (Nat.le_of_ble_eq_true rfl)]; exact congrArg some (pE_o h a X (gI X 3 v) _ rfl (fun j => rfl))), (fun v => by rw [putf_of (pE_obj h a X) (Nat.le_of_ble_eq_true rfl)]; exact congrArg some (pE_o h a X (gI X 4 v) _ rfl (fun j => rfl))), (fun v => by rw [putf_of (pE_obj h a X) (Nat.le_of_ble_eq_true rfl)]; exact congrArg some (pE_o h a X (gJ X 0 v) _ rfl (fun j => rfl))), (fun v => by rw [putf_of (pE_obj h a X) (Nat.le_of_ble_eq_true rfl)]; exact congrArg some (pE_o h a X (gR X 0 v) _ rfl (fun j => rfl)))⟩
end GE
section THE
variable {h : ia_H} {a k : Nat} {X : aG}
theorem thE_cls (hk : k < a ∨ a + 1 ≤ k)  : ia_cls (pE h a X) k = ia_cls h k := th_cls hk
theorem thE_getI (hk : k < a ∨ a + 1 ≤ k) (c s : Nat) : ia_getI (pE h a X) k c s = ia_getI h k c s := th_getI hk c s
theorem thE_getR (hk : k < a ∨ a + 1 ≤ k) (c s : Nat) : ia_getR (pE h a X) k c s = ia_getR h k c s := th_getR hk c s
theorem thE_getL (hk : k < a ∨ a + 1 ≤ k) (c s : Nat) : ia_getL (pE h a X) k c s = ia_getL h k c s := th_getL hk c s
theorem thE_ald (hk : k < a ∨ a + 1 ≤ k) (tg : Nat) (i : Int32) : ia_ald (pE h a X) k tg i = ia_ald h k tg i := th_ald hk tg i
theorem thE_lald (hk : k < a ∨ a + 1 ≤ k) (i : Int32) : ia_lald (pE h a X) k i = ia_lald h k i := th_lald hk i
theorem thE_len (hk : k < a ∨ a + 1 ≤ k)  : ia_len (pE h a X) k = ia_len h k := th_len hk
theorem thE_ast (hk : k < a ∨ a + 1 ≤ k) (tg : Nat) (i x : Int32) : ia_ast (pE h a X) k tg i x = (ia_ast h k tg i x).map fun g => pE g a X := th_ast hk tg i x
theorem thE_last (hk : k < a ∨ a + 1 ≤ k) (i : Int32) (x : Int64) : ia_last (pE h a X) k i x = (ia_last h k i x).map fun g => pE g a X := th_last hk i x
theorem thE_putf (hk : k < a ∨ a + 1 ≤ k) (c s : Nat) (v : Value) : ia_putf (pE h a X) k c s v = (ia_putf h k c s v).map fun g => pE g a X := th_putf hk c s v
end THE
/-- EngagedTone$Foresight: ints ; rows ; longs ; references 0 trial, 1 exchange -/
def cF (a : Nat) (X : aG) : Nat → ia_E
  | 0 => .inr (.inr (2, [.ref (X.2.2.2.2 0), .ref (X.2.2.2.2 1)]))
  | _ => ia_dead
def pF (h : ia_H) (a : Nat) (X : aG) : ia_H := ia_put h a 1 (cF a X)
section GF
variable (h : ia_H) (a : Nat) (X : aG)
theorem pF_obj : (pF h a X).2.2 a = cF a X 0 := put_in0 (by decide)
theorem pF_cls : ia_cls (pF h a X) a = 2 := cls_of (pF_obj h a X)
theorem pF_R : ia_getR (pF h a X) a 2 0 = some (X.2.2.2.2 0) ∧ ia_getR (pF h a X) a 2 1 = some (X.2.2.2.2 1) :=
  ⟨getR_of (pF_obj h a X) rfl, getR_of (pF_obj h a X) rfl⟩
theorem pF_o (X2 : aG) (fs : List Value) (h0 : cF a X2 0 = .inr (.inr (2, fs))) (h1 : ∀ j, cF a X2 (j + 1) = cF a X (j + 1)) : ia_up (pF h a X) a (.inr (.inr (2, fs))) = pF h a X2 := by
  unfold pF
  rw [up_put0 (by decide)]
  congr 1
  funext j
  match j with
  | 0 => exact h0.symm
  | j + 1 => exact (h1 j).symm
theorem pF_pf : (∀ v, ia_putf (pF h a X) a 2 0 (.ref v) = some (pF h a (gR X 0 v))) ∧ (∀ v, ia_putf (pF h a X) a 2 1 (.ref v) = some (pF h a (gR X 1 v))) :=
  ⟨(fun v => by rw [putf_of (pF_obj h a X) (Nat.le_of_ble_eq_true rfl)]; exact congrArg some (pF_o h a X (gR X 0 v) _ rfl (fun j => rfl))), (fun v => by rw [putf_of (pF_obj h a X) (Nat.le_of_ble_eq_true rfl)]; exact congrArg some (pF_o h a X (gR X 1 v) _ rfl (fun j => rfl)))⟩
end GF
section THF
variable {h : ia_H} {a k : Nat} {X : aG}
theorem thF_cls (hk : k < a ∨ a + 1 ≤ k)  : ia_cls (pF h a X) k = ia_cls h k := th_cls hk
theorem thF_getI (hk : k < a ∨ a + 1 ≤ k) (c s : Nat) : ia_getI (pF h a X) k c s = ia_getI h k c s := th_getI hk c s
theorem thF_getR (hk : k < a ∨ a + 1 ≤ k) (c s : Nat) : ia_getR (pF h a X) k c s = ia_getR h k c s := th_getR hk c s
theorem thF_getL (hk : k < a ∨ a + 1 ≤ k) (c s : Nat) : ia_getL (pF h a X) k c s = ia_getL h k c s := th_getL hk c s
theorem thF_ald (hk : k < a ∨ a + 1 ≤ k) (tg : Nat) (i : Int32) : ia_ald (pF h a X) k tg i = ia_ald h k tg i := th_ald hk tg i
theorem thF_lald (hk : k < a ∨ a + 1 ≤ k) (i : Int32) : ia_lald (pF h a X) k i = ia_lald h k i := th_lald hk i
theorem thF_len (hk : k < a ∨ a + 1 ≤ k)  : ia_len (pF h a X) k = ia_len h k := th_len hk
theorem thF_ast (hk : k < a ∨ a + 1 ≤ k) (tg : Nat) (i x : Int32) : ia_ast (pF h a X) k tg i x = (ia_ast h k tg i x).map fun g => pF g a X := th_ast hk tg i x
theorem thF_last (hk : k < a ∨ a + 1 ≤ k) (i : Int32) (x : Int64) : ia_last (pF h a X) k i x = (ia_last h k i x).map fun g => pF g a X := th_last hk i x
theorem thF_putf (hk : k < a ∨ a + 1 ≤ k) (c s : Nat) (v : Value) : ia_putf (pF h a X) k c s v = (ia_putf h k c s v).map fun g => pF g a X := th_putf hk c s v
end THF
/-- EngagedTone$Rumours: ints 0 heard, 1 believed; rows 0 kind, 1 quarters, 2 whom, 3 isStruck; longs ; references  -/
def cU (a : Nat) (X : aG) : Nat → ia_E
  | 0 => .inr (.inr (5, [.int (X.1 0), .int (X.1 1), .ref (a + 1), .ref (a + 2), .ref (a + 3), .ref (a + 4)]))
  | 1 => .inl (0, X.2.1 0)
  | 2 => .inl (0, X.2.1 1)
  | 3 => .inl (0, X.2.1 2)
  | 4 => .inl (2, X.2.1 3)
  | _ => ia_dead
def pU (h : ia_H) (a : Nat) (X : aG) : ia_H := ia_put h a 5 (cU a X)
section GU
variable (h : ia_H) (a : Nat) (X : aG)
theorem pU_obj : (pU h a X).2.2 a = cU a X 0 := put_in0 (by decide)
theorem pU_cls : ia_cls (pU h a X) a = 5 := cls_of (pU_obj h a X)
theorem pU_I : ia_getI (pU h a X) a 5 0 = some (X.1 0) ∧ ia_getI (pU h a X) a 5 1 = some (X.1 1) :=
  ⟨getI_of (pU_obj h a X) rfl, getI_of (pU_obj h a X) rfl⟩
theorem pU_R : ia_getR (pU h a X) a 5 2 = some (a + 1) ∧ ia_getR (pU h a X) a 5 3 = some (a + 2) ∧ ia_getR (pU h a X) a 5 4 = some (a + 3) ∧ ia_getR (pU h a X) a 5 5 = some (a + 4) :=
  ⟨getR_of (pU_obj h a X) rfl, getR_of (pU_obj h a X) rfl, getR_of (pU_obj h a X) rfl, getR_of (pU_obj h a X) rfl⟩
theorem pU_ld : (∀ i, ia_ald (pU h a X) (a + 1) 0 i = rd (X.2.1 0) i) ∧ (∀ i, ia_ald (pU h a X) (a + 2) 0 i = rd (X.2.1 1) i) ∧ (∀ i, ia_ald (pU h a X) (a + 3) 0 i = rd (X.2.1 2) i) ∧ (∀ i, ia_ald (pU h a X) (a + 4) 2 i = rd (X.2.1 3) i) :=
  ⟨ald_of (put_in 1 (by decide)), ald_of (put_in 2 (by decide)), ald_of (put_in 3 (by decide)), ald_of (put_in 4 (by decide))⟩
theorem pU_a1 (l : List Int32) : ia_up (pU h a X) (a + 1) (.inl (0, l)) = pU h a (gA X 0 l) := by
  unfold pU
  rw [up_put 1 (by decide)]
  congr 1
  funext j
  match j with
  | 0 => rfl
  | 1 => rfl
  | 2 => rfl
  | 3 => rfl
  | 4 => rfl
  | j + 5 => rfl
theorem pU_a2 (l : List Int32) : ia_up (pU h a X) (a + 2) (.inl (0, l)) = pU h a (gA X 1 l) := by
  unfold pU
  rw [up_put 2 (by decide)]
  congr 1
  funext j
  match j with
  | 0 => rfl
  | 1 => rfl
  | 2 => rfl
  | 3 => rfl
  | 4 => rfl
  | j + 5 => rfl
theorem pU_a3 (l : List Int32) : ia_up (pU h a X) (a + 3) (.inl (0, l)) = pU h a (gA X 2 l) := by
  unfold pU
  rw [up_put 3 (by decide)]
  congr 1
  funext j
  match j with
  | 0 => rfl
  | 1 => rfl
  | 2 => rfl
  | 3 => rfl
  | 4 => rfl
  | j + 5 => rfl
theorem pU_a4 (l : List Int32) : ia_up (pU h a X) (a + 4) (.inl (2, l)) = pU h a (gA X 3 l) := by
  unfold pU
  rw [up_put 4 (by decide)]
  congr 1
  funext j
  match j with
  | 0 => rfl
  | 1 => rfl
  | 2 => rfl
  | 3 => rfl
  | 4 => rfl
  | j + 5 => rfl
theorem pU_st : (∀ i x, ia_ast (pU h a X) (a + 1) 0 i x = (wr (X.2.1 0) i x).map fun l => pU h a (gA X 0 l)) ∧ (∀ i x, ia_ast (pU h a X) (a + 2) 0 i x = (wr (X.2.1 1) i x).map fun l => pU h a (gA X 1 l)) ∧ (∀ i x, ia_ast (pU h a X) (a + 3) 0 i x = (wr (X.2.1 2) i x).map fun l => pU h a (gA X 2 l)) ∧ (∀ i x, ia_ast (pU h a X) (a + 4) 2 i x = (wr (X.2.1 3) i x).map fun l => pU h a (gA X 3 l)) :=
  ⟨(fun i x => by rw [ast_of (show (pU h a X).2.2 (a + 1) = .inl (0, X.2.1 0) from put_in 1 (by decide))]; congr 1; funext l; exact pU_a1 h a X l), (fun i x => by rw [ast_of (show (pU h a X).2.2 (a + 2) = .inl (0, X.2.1 1) from put_in 2 (by decide))]; congr 1; funext l; exact pU_a2 h a X l), (fun i x => by rw [ast_of (show (pU h a X).2.2 (a + 3) = .inl (0, X.2.1 2) from put_in 3 (by decide))]; congr 1; funext l; exact pU_a3 h a X l), (fun i x => by rw [ast_of (show (pU h a X).2.2 (a + 4) = .inl (2, X.2.1 3) from put_in 4 (by decide))]; congr 1; funext l; exact pU_a4 h a X l)⟩
theorem pU_o (X2 : aG) (fs : List Value) (h0 : cU a X2 0 = .inr (.inr (5, fs))) (h1 : ∀ j, cU a X2 (j + 1) = cU a X (j + 1)) : ia_up (pU h a X) a (.inr (.inr (5, fs))) = pU h a X2 := by
  unfold pU
  rw [up_put0 (by decide)]
  congr 1
  funext j
  match j with
  | 0 => exact h0.symm
  | j + 1 => exact (h1 j).symm
theorem cU_t {a : Nat} {X X2 : aG} (h1 : X2.2.1 = X.2.1) (h2 : X2.2.2.2.1 = X.2.2.2.1) (j : Nat) : cU a X2 (j + 1) = cU a X (j + 1) := by
  match j with
  | 0 => simp only [cU, h1, h2]
  | 1 => simp only [cU, h1, h2]
  | 2 => simp only [cU, h1, h2]
  | 3 => simp only [cU, h1, h2]
  | _ + 4 => rfl
theorem pU_pf : (∀ v, ia_putf (pU h a X) a 5 0 (.int v) = some (pU h a (gI X 0 v))) ∧ (∀ v, ia_putf (pU h a X) a 5 1 (.int v) = some (pU h a (gI X 1 v))) :=
  ⟨(fun v => by rw [putf_of (pU_obj h a X) (Nat.le_of_ble_eq_true rfl)]; exact congrArg some (pU_o h a X (gI X 0 v) _ rfl (cU_t rfl rfl))), (fun v => by rw [putf_of (pU_obj h a X) (Nat.le_of_ble_eq_true rfl)]; exact congrArg some (pU_o h a X (gI X 1 v) _ rfl (cU_t rfl rfl)))⟩
end GU
section THU
variable {h : ia_H} {a k : Nat} {X : aG}
theorem thU_cls (hk : k < a ∨ a + 5 ≤ k)  : ia_cls (pU h a X) k = ia_cls h k := th_cls hk
theorem thU_getI (hk : k < a ∨ a + 5 ≤ k) (c s : Nat) : ia_getI (pU h a X) k c s = ia_getI h k c s := th_getI hk c s
theorem thU_getR (hk : k < a ∨ a + 5 ≤ k) (c s : Nat) : ia_getR (pU h a X) k c s = ia_getR h k c s := th_getR hk c s
theorem thU_getL (hk : k < a ∨ a + 5 ≤ k) (c s : Nat) : ia_getL (pU h a X) k c s = ia_getL h k c s := th_getL hk c s
theorem thU_ald (hk : k < a ∨ a + 5 ≤ k) (tg : Nat) (i : Int32) : ia_ald (pU h a X) k tg i = ia_ald h k tg i := th_ald hk tg i
theorem thU_lald (hk : k < a ∨ a + 5 ≤ k) (i : Int32) : ia_lald (pU h a X) k i = ia_lald h k i := th_lald hk i
theorem thU_len (hk : k < a ∨ a + 5 ≤ k)  : ia_len (pU h a X) k = ia_len h k := th_len hk
theorem thU_ast (hk : k < a ∨ a + 5 ≤ k) (tg : Nat) (i x : Int32) : ia_ast (pU h a X) k tg i x = (ia_ast h k tg i x).map fun g => pU g a X := th_ast hk tg i x
theorem thU_last (hk : k < a ∨ a + 5 ≤ k) (i : Int32) (x : Int64) : ia_last (pU h a X) k i x = (ia_last h k i x).map fun g => pU g a X := th_last hk i x
theorem thU_putf (hk : k < a ∨ a + 5 ≤ k) (c s : Nat) (v : Value) : ia_putf (pU h a X) k c s v = (ia_putf h k c s v).map fun g => pU g a X := th_putf hk c s v
end THU
/-- EngagedTone$Deeds: ints 0 done, 1 lastKind, 2 lastWhich, 3 lastBefore; rows 0 kinds, 1 which, 2 before; longs ; references  -/
def cD (a : Nat) (X : aG) : Nat → ia_E
  | 0 => .inr (.inr (0, [.int (X.1 0), .int (X.1 1), .int (X.1 2), .int (X.1 3), .ref (a + 1), .ref (a + 2), .ref (a + 3)]))
  | 1 => .inl (0, X.2.1 0)
  | 2 => .inl (0, X.2.1 1)
  | 3 => .inl (0, X.2.1 2)
  | _ => ia_dead
def pD (h : ia_H) (a : Nat) (X : aG) : ia_H := ia_put h a 4 (cD a X)
section GD
variable (h : ia_H) (a : Nat) (X : aG)
theorem pD_obj : (pD h a X).2.2 a = cD a X 0 := put_in0 (by decide)
theorem pD_cls : ia_cls (pD h a X) a = 0 := cls_of (pD_obj h a X)
theorem pD_I : ia_getI (pD h a X) a 0 0 = some (X.1 0) ∧ ia_getI (pD h a X) a 0 1 = some (X.1 1) ∧ ia_getI (pD h a X) a 0 2 = some (X.1 2) ∧ ia_getI (pD h a X) a 0 3 = some (X.1 3) :=
  ⟨getI_of (pD_obj h a X) rfl, getI_of (pD_obj h a X) rfl, getI_of (pD_obj h a X) rfl, getI_of (pD_obj h a X) rfl⟩
theorem pD_R : ia_getR (pD h a X) a 0 4 = some (a + 1) ∧ ia_getR (pD h a X) a 0 5 = some (a + 2) ∧ ia_getR (pD h a X) a 0 6 = some (a + 3) :=
  ⟨getR_of (pD_obj h a X) rfl, getR_of (pD_obj h a X) rfl, getR_of (pD_obj h a X) rfl⟩
theorem pD_ld : (∀ i, ia_ald (pD h a X) (a + 1) 0 i = rd (X.2.1 0) i) ∧ (∀ i, ia_ald (pD h a X) (a + 2) 0 i = rd (X.2.1 1) i) ∧ (∀ i, ia_ald (pD h a X) (a + 3) 0 i = rd (X.2.1 2) i) :=
  ⟨ald_of (put_in 1 (by decide)), ald_of (put_in 2 (by decide)), ald_of (put_in 3 (by decide))⟩
theorem pD_a1 (l : List Int32) : ia_up (pD h a X) (a + 1) (.inl (0, l)) = pD h a (gA X 0 l) := by
  unfold pD
  rw [up_put 1 (by decide)]
  congr 1
  funext j
  match j with
  | 0 => rfl
  | 1 => rfl
  | 2 => rfl
  | 3 => rfl
  | j + 4 => rfl
theorem pD_a2 (l : List Int32) : ia_up (pD h a X) (a + 2) (.inl (0, l)) = pD h a (gA X 1 l) := by
  unfold pD
  rw [up_put 2 (by decide)]
  congr 1
  funext j
  match j with
  | 0 => rfl
  | 1 => rfl
  | 2 => rfl
  | 3 => rfl
  | j + 4 => rfl
theorem pD_a3 (l : List Int32) : ia_up (pD h a X) (a + 3) (.inl (0, l)) = pD h a (gA X 2 l) := by
  unfold pD
  rw [up_put 3 (by decide)]
  congr 1
  funext j
  match j with
  | 0 => rfl
  | 1 => rfl
  | 2 => rfl
  | 3 => rfl
  | j + 4 => rfl
theorem pD_st : (∀ i x, ia_ast (pD h a X) (a + 1) 0 i x = (wr (X.2.1 0) i x).map fun l => pD h a (gA X 0 l)) ∧ (∀ i x, ia_ast (pD h a X) (a + 2) 0 i x = (wr (X.2.1 1) i x).map fun l => pD h a (gA X 1 l)) ∧ (∀ i x, ia_ast (pD h a X) (a + 3) 0 i x = (wr (X.2.1 2) i x).map fun l => pD h a (gA X 2 l)) :=
  ⟨(fun i x => by rw [ast_of (show (pD h a X).2.2 (a + 1) = .inl (0, X.2.1 0) from put_in 1 (by decide))]; congr 1; funext l; exact pD_a1 h a X l), (fun i x => by rw [ast_of (show (pD h a X).2.2 (a + 2) = .inl (0, X.2.1 1) from put_in 2 (by decide))]; congr 1; funext l; exact pD_a2 h a X l), (fun i x => by rw [ast_of (show (pD h a X).2.2 (a + 3) = .inl (0, X.2.1 2) from put_in 3 (by decide))]; congr 1; funext l; exact pD_a3 h a X l)⟩
theorem pD_o (X2 : aG) (fs : List Value) (h0 : cD a X2 0 = .inr (.inr (0, fs))) (h1 : ∀ j, cD a X2 (j + 1) = cD a X (j + 1)) : ia_up (pD h a X) a (.inr (.inr (0, fs))) = pD h a X2 := by
  unfold pD
  rw [up_put0 (by decide)]
  congr 1
  funext j
  match j with
  | 0 => exact h0.symm
  | j + 1 => exact (h1 j).symm
theorem cD_t {a : Nat} {X X2 : aG} (h1 : X2.2.1 = X.2.1) (h2 : X2.2.2.2.1 = X.2.2.2.1) (j : Nat) : cD a X2 (j + 1) = cD a X (j + 1) := by
  match j with
  | 0 => simp only [cD, h1, h2]
  | 1 => simp only [cD, h1, h2]
  | 2 => simp only [cD, h1, h2]
  | _ + 3 => rfl
theorem pD_pf : (∀ v, ia_putf (pD h a X) a 0 0 (.int v) = some (pD h a (gI X 0 v))) ∧ (∀ v, ia_putf (pD h a X) a 0 1 (.int v) = some (pD h a (gI X 1 v))) ∧ (∀ v, ia_putf (pD h a X) a 0 2 (.int v) = some (pD h a (gI X 2 v))) ∧ (∀ v, ia_putf (pD h a X) a 0 3 (.int v) = some (pD h a (gI X 3 v))) :=
  ⟨(fun v => by rw [putf_of (pD_obj h a X) (Nat.le_of_ble_eq_true rfl)]; exact congrArg some (pD_o h a X (gI X 0 v) _ rfl (cD_t rfl rfl))), (fun v => by rw [putf_of (pD_obj h a X) (Nat.le_of_ble_eq_true rfl)]; exact congrArg some (pD_o h a X (gI X 1 v) _ rfl (cD_t rfl rfl))), (fun v => by rw [putf_of (pD_obj h a X) (Nat.le_of_ble_eq_true rfl)]; exact congrArg some (pD_o h a X (gI X 2 v) _ rfl (cD_t rfl rfl))), (fun v => by rw [putf_of (pD_obj h a X) (Nat.le_of_ble_eq_true rfl)]; exact congrArg some (pD_o h a X (gI X 3 v) _ rfl (cD_t rfl rfl)))⟩
end GD
section THD
variable {h : ia_H} {a k : Nat} {X : aG}
theorem thD_cls (hk : k < a ∨ a + 4 ≤ k)  : ia_cls (pD h a X) k = ia_cls h k := th_cls hk
theorem thD_getI (hk : k < a ∨ a + 4 ≤ k) (c s : Nat) : ia_getI (pD h a X) k c s = ia_getI h k c s := th_getI hk c s
theorem thD_getR (hk : k < a ∨ a + 4 ≤ k) (c s : Nat) : ia_getR (pD h a X) k c s = ia_getR h k c s := th_getR hk c s
theorem thD_getL (hk : k < a ∨ a + 4 ≤ k) (c s : Nat) : ia_getL (pD h a X) k c s = ia_getL h k c s := th_getL hk c s
theorem thD_ald (hk : k < a ∨ a + 4 ≤ k) (tg : Nat) (i : Int32) : ia_ald (pD h a X) k tg i = ia_ald h k tg i := th_ald hk tg i
theorem thD_lald (hk : k < a ∨ a + 4 ≤ k) (i : Int32) : ia_lald (pD h a X) k i = ia_lald h k i := th_lald hk i
theorem thD_len (hk : k < a ∨ a + 4 ≤ k)  : ia_len (pD h a X) k = ia_len h k := th_len hk
theorem thD_ast (hk : k < a ∨ a + 4 ≤ k) (tg : Nat) (i x : Int32) : ia_ast (pD h a X) k tg i x = (ia_ast h k tg i x).map fun g => pD g a X := th_ast hk tg i x
theorem thD_last (hk : k < a ∨ a + 4 ≤ k) (i : Int32) (x : Int64) : ia_last (pD h a X) k i x = (ia_last h k i x).map fun g => pD g a X := th_last hk i x
theorem thD_putf (hk : k < a ∨ a + 4 ≤ k) (c s : Nat) (v : Value) : ia_putf (pD h a X) k c s v = (ia_putf h k c s v).map fun g => pD g a X := th_putf hk c s v
end THD
/-- EngagedTone$Tokens: ints 0 kind, 1 place, 2 value, 3 length, 4 at; rows 0 !none:[B, 1 words; longs ; references 0 bytes -/
def cT (a : Nat) (X : aG) : Nat → ia_E
  | 0 => .inr (.inr (7, [.int (X.1 0), .int (X.1 1), .int (X.1 2), .ref (X.2.2.2.2 0), .int (X.1 3), .int (X.1 4), .ref (a + 2)]))
  | 1 => .inl (1, X.2.1 0)
  | 2 => .inl (0, X.2.1 1)
  | _ => ia_dead
def pT (h : ia_H) (a : Nat) (X : aG) : ia_H := ia_put h a 3 (cT a X)
section GT
variable (h : ia_H) (a : Nat) (X : aG)
theorem pT_obj : (pT h a X).2.2 a = cT a X 0 := put_in0 (by decide)
theorem pT_cls : ia_cls (pT h a X) a = 7 := cls_of (pT_obj h a X)
theorem pT_I : ia_getI (pT h a X) a 7 0 = some (X.1 0) ∧ ia_getI (pT h a X) a 7 1 = some (X.1 1) ∧ ia_getI (pT h a X) a 7 2 = some (X.1 2) ∧ ia_getI (pT h a X) a 7 4 = some (X.1 3) ∧ ia_getI (pT h a X) a 7 5 = some (X.1 4) :=
  ⟨getI_of (pT_obj h a X) rfl, getI_of (pT_obj h a X) rfl, getI_of (pT_obj h a X) rfl, getI_of (pT_obj h a X) rfl, getI_of (pT_obj h a X) rfl⟩
theorem pT_R : ia_getR (pT h a X) a 7 3 = some (X.2.2.2.2 0) ∧ ia_getR (pT h a X) a 7 6 = some (a + 2) :=
  ⟨getR_of (pT_obj h a X) rfl, getR_of (pT_obj h a X) rfl⟩
theorem pT_ld : (∀ i, ia_ald (pT h a X) (a + 1) 1 i = rd (X.2.1 0) i) ∧ (∀ i, ia_ald (pT h a X) (a + 2) 0 i = rd (X.2.1 1) i) :=
  ⟨ald_of (put_in 1 (by decide)), ald_of (put_in 2 (by decide))⟩
theorem pT_a1 (l : List Int32) : ia_up (pT h a X) (a + 1) (.inl (1, l)) = pT h a (gA X 0 l) := by
  unfold pT
  rw [up_put 1 (by decide)]
  congr 1
  funext j
  match j with
  | 0 => rfl
  | 1 => rfl
  | 2 => rfl
  | j + 3 => rfl
theorem pT_a2 (l : List Int32) : ia_up (pT h a X) (a + 2) (.inl (0, l)) = pT h a (gA X 1 l) := by
  unfold pT
  rw [up_put 2 (by decide)]
  congr 1
  funext j
  match j with
  | 0 => rfl
  | 1 => rfl
  | 2 => rfl
  | j + 3 => rfl
theorem pT_st : (∀ i x, ia_ast (pT h a X) (a + 1) 1 i x = (wr (X.2.1 0) i x).map fun l => pT h a (gA X 0 l)) ∧ (∀ i x, ia_ast (pT h a X) (a + 2) 0 i x = (wr (X.2.1 1) i x).map fun l => pT h a (gA X 1 l)) :=
  ⟨(fun i x => by rw [ast_of (show (pT h a X).2.2 (a + 1) = .inl (1, X.2.1 0) from put_in 1 (by decide))]; congr 1; funext l; exact pT_a1 h a X l), (fun i x => by rw [ast_of (show (pT h a X).2.2 (a + 2) = .inl (0, X.2.1 1) from put_in 2 (by decide))]; congr 1; funext l; exact pT_a2 h a X l)⟩
theorem pT_o (X2 : aG) (fs : List Value) (h0 : cT a X2 0 = .inr (.inr (7, fs))) (h1 : ∀ j, cT a X2 (j + 1) = cT a X (j + 1)) : ia_up (pT h a X) a (.inr (.inr (7, fs))) = pT h a X2 := by
  unfold pT
  rw [up_put0 (by decide)]
  congr 1
  funext j
  match j with
  | 0 => exact h0.symm
  | j + 1 => exact (h1 j).symm
theorem cT_t {a : Nat} {X X2 : aG} (h1 : X2.2.1 = X.2.1) (h2 : X2.2.2.2.1 = X.2.2.2.1) (j : Nat) : cT a X2 (j + 1) = cT a X (j + 1) := by
  match j with
  | 0 => simp only [cT, h1, h2]
  | 1 => simp only [cT, h1, h2]
  | _ + 2 => rfl
theorem pT_pf : (∀ v, ia_putf (pT h a X) a 7 0 (.int v) = some (pT h a (gI X 0 v))) ∧ (∀ v, ia_putf (pT h a X) a 7 1 (.int v) = some (pT h a (gI X 1 v))) ∧ (∀ v, ia_putf (pT h a X) a 7 2 (.int v) = some (pT h a (gI X 2 v))) ∧ (∀ v, ia_putf (pT h a X) a 7 4 (.int v) = some (pT h a (gI X 3 v))) ∧ (∀ v, ia_putf (pT h a X) a 7 5 (.int v) = some (pT h a (gI X 4 v))) ∧ (∀ v, ia_putf (pT h a X) a 7 3 (.ref v) = some (pT h a (gR X 0 v))) :=
  ⟨(fun v => by rw [putf_of (pT_obj h a X) (Nat.le_of_ble_eq_true rfl)]; exact congrArg some (pT_o h a X (gI X 0 v) _ rfl (cT_t rfl rfl))), (fun v => by rw [putf_of (pT_obj h a X) (Nat.le_of_ble_eq_true rfl)]; exact congrArg some (pT_o h a X (gI X 1 v) _ rfl (cT_t rfl rfl))), (fun v => by rw [putf_of (pT_obj h a X) (Nat.le_of_ble_eq_true rfl)]; exact congrArg some (pT_o h a X (gI X 2 v) _ rfl (cT_t rfl rfl))), (fun v => by rw [putf_of (pT_obj h a X) (Nat.le_of_ble_eq_true rfl)]; exact congrArg some (pT_o h a X (gI X 3 v) _ rfl (cT_t rfl rfl))), (fun v => by rw [putf_of (pT_obj h a X) (Nat.le_of_ble_eq_true rfl)]; exact congrArg some (pT_o h a X (gI X 4 v) _ rfl (cT_t rfl rfl))), (fun v => by rw [putf_of (pT_obj h a X) (Nat.le_of_ble_eq_true rfl)]; exact congrArg some (pT_o h a X (gR X 0 v) _ rfl (cT_t rfl rfl)))⟩
end GT
section THT
variable {h : ia_H} {a k : Nat} {X : aG}
theorem thT_cls (hk : k < a ∨ a + 3 ≤ k)  : ia_cls (pT h a X) k = ia_cls h k := th_cls hk
theorem thT_getI (hk : k < a ∨ a + 3 ≤ k) (c s : Nat) : ia_getI (pT h a X) k c s = ia_getI h k c s := th_getI hk c s
theorem thT_getR (hk : k < a ∨ a + 3 ≤ k) (c s : Nat) : ia_getR (pT h a X) k c s = ia_getR h k c s := th_getR hk c s
theorem thT_getL (hk : k < a ∨ a + 3 ≤ k) (c s : Nat) : ia_getL (pT h a X) k c s = ia_getL h k c s := th_getL hk c s
theorem thT_ald (hk : k < a ∨ a + 3 ≤ k) (tg : Nat) (i : Int32) : ia_ald (pT h a X) k tg i = ia_ald h k tg i := th_ald hk tg i
theorem thT_lald (hk : k < a ∨ a + 3 ≤ k) (i : Int32) : ia_lald (pT h a X) k i = ia_lald h k i := th_lald hk i
theorem thT_len (hk : k < a ∨ a + 3 ≤ k)  : ia_len (pT h a X) k = ia_len h k := th_len hk
theorem thT_ast (hk : k < a ∨ a + 3 ≤ k) (tg : Nat) (i x : Int32) : ia_ast (pT h a X) k tg i x = (ia_ast h k tg i x).map fun g => pT g a X := th_ast hk tg i x
theorem thT_last (hk : k < a ∨ a + 3 ≤ k) (i : Int32) (x : Int64) : ia_last (pT h a X) k i x = (ia_last h k i x).map fun g => pT g a X := th_last hk i x
theorem thT_putf (hk : k < a ∨ a + 3 ≤ k) (c s : Nat) (v : Value) : ia_putf (pT h a X) k c s v = (ia_putf h k c s v).map fun g => pT g a X := th_putf hk c s v
end THT
/-- EngagedTone$Reader: ints 0 faultKind, 1 faultPlace, 2 linesRead, 3 waits, 4 open; rows ; longs ; references 0 script, 1 tokens, 2 waiting -/
def cQ (a : Nat) (X : aG) : Nat → ia_E
  | 0 => .inr (.inr (4, [.int (X.1 0), .int (X.1 1), .int (X.1 2), .ref (X.2.2.2.2 0), .ref (X.2.2.2.2 1), .ref (X.2.2.2.2 2), .int (X.1 3), .int (X.1 4)]))
  | _ => ia_dead
def pQ (h : ia_H) (a : Nat) (X : aG) : ia_H := ia_put h a 1 (cQ a X)
section GQ
variable (h : ia_H) (a : Nat) (X : aG)
theorem pQ_obj : (pQ h a X).2.2 a = cQ a X 0 := put_in0 (by decide)
theorem pQ_cls : ia_cls (pQ h a X) a = 4 := cls_of (pQ_obj h a X)
theorem pQ_I : ia_getI (pQ h a X) a 4 0 = some (X.1 0) ∧ ia_getI (pQ h a X) a 4 1 = some (X.1 1) ∧ ia_getI (pQ h a X) a 4 2 = some (X.1 2) ∧ ia_getI (pQ h a X) a 4 6 = some (X.1 3) ∧ ia_getI (pQ h a X) a 4 7 = some (X.1 4) :=
  ⟨getI_of (pQ_obj h a X) rfl, getI_of (pQ_obj h a X) rfl, getI_of (pQ_obj h a X) rfl, getI_of (pQ_obj h a X) rfl, getI_of (pQ_obj h a X) rfl⟩
theorem pQ_R : ia_getR (pQ h a X) a 4 3 = some (X.2.2.2.2 0) ∧ ia_getR (pQ h a X) a 4 4 = some (X.2.2.2.2 1) ∧ ia_getR (pQ h a X) a 4 5 = some (X.2.2.2.2 2) :=
  ⟨getR_of (pQ_obj h a X) rfl, getR_of (pQ_obj h a X) rfl, getR_of (pQ_obj h a X) rfl⟩
theorem pQ_o (X2 : aG) (fs : List Value) (h0 : cQ a X2 0 = .inr (.inr (4, fs))) (h1 : ∀ j, cQ a X2 (j + 1) = cQ a X (j + 1)) : ia_up (pQ h a X) a (.inr (.inr (4, fs))) = pQ h a X2 := by
  unfold pQ
  rw [up_put0 (by decide)]
  congr 1
  funext j
  match j with
  | 0 => exact h0.symm
  | j + 1 => exact (h1 j).symm
theorem pQ_pf : (∀ v, ia_putf (pQ h a X) a 4 0 (.int v) = some (pQ h a (gI X 0 v))) ∧ (∀ v, ia_putf (pQ h a X) a 4 1 (.int v) = some (pQ h a (gI X 1 v))) ∧ (∀ v, ia_putf (pQ h a X) a 4 2 (.int v) = some (pQ h a (gI X 2 v))) ∧ (∀ v, ia_putf (pQ h a X) a 4 6 (.int v) = some (pQ h a (gI X 3 v))) ∧ (∀ v, ia_putf (pQ h a X) a 4 7 (.int v) = some (pQ h a (gI X 4 v))) ∧ (∀ v, ia_putf (pQ h a X) a 4 3 (.ref v) = some (pQ h a (gR X 0 v))) ∧ (∀ v, ia_putf (pQ h a X) a 4 4 (.ref v) = some (pQ h a (gR X 1 v))) ∧ (∀ v, ia_putf (pQ h a X) a 4 5 (.ref v) = some (pQ h a (gR X 2 v))) :=
  ⟨(fun v => by rw [putf_of (pQ_obj h a X) (Nat.le_of_ble_eq_true rfl)]; exact congrArg some (pQ_o h a X (gI X 0 v) _ rfl (fun j => rfl))), (fun v => by rw [putf_of (pQ_obj h a X) (Nat.le_of_ble_eq_true rfl)]; exact congrArg some (pQ_o h a X (gI X 1 v) _ rfl (fun j => rfl))), (fun v => by rw [putf_of (pQ_obj h a X) (Nat.le_of_ble_eq_true rfl)]; exact congrArg some (pQ_o h a X (gI X 2 v) _ rfl (fun j => rfl))), (fun v => by rw [putf_of (pQ_obj h a X) (Nat.le_of_ble_eq_true rfl)]; exact congrArg some (pQ_o h a X (gI X 3 v) _ rfl (fun j => rfl))), (fun v => by rw [putf_of (pQ_obj h a X) (Nat.le_of_ble_eq_true rfl)]; exact congrArg some (pQ_o h a X (gI X 4 v) _ rfl (fun j => rfl))), (fun v => by rw [putf_of (pQ_obj h a X) (Nat.le_of_ble_eq_true rfl)]; exact congrArg some (pQ_o h a X (gR X 0 v) _ rfl (fun j => rfl))), (fun v => by rw [putf_of (pQ_obj h a X) (Nat.le_of_ble_eq_true rfl)]; exact congrArg some (pQ_o h a X (gR X 1 v) _ rfl (fun j => rfl))), (fun v => by rw [putf_of (pQ_obj h a X) (Nat.le_of_ble_eq_true rfl)]; exact congrArg some (pQ_o h a X (gR X 2 v) _ rfl (fun j => rfl)))⟩
end GQ
section THQ
variable {h : ia_H} {a k : Nat} {X : aG}
theorem thQ_cls (hk : k < a ∨ a + 1 ≤ k)  : ia_cls (pQ h a X) k = ia_cls h k := th_cls hk
theorem thQ_getI (hk : k < a ∨ a + 1 ≤ k) (c s : Nat) : ia_getI (pQ h a X) k c s = ia_getI h k c s := th_getI hk c s
theorem thQ_getR (hk : k < a ∨ a + 1 ≤ k) (c s : Nat) : ia_getR (pQ h a X) k c s = ia_getR h k c s := th_getR hk c s
theorem thQ_getL (hk : k < a ∨ a + 1 ≤ k) (c s : Nat) : ia_getL (pQ h a X) k c s = ia_getL h k c s := th_getL hk c s
theorem thQ_ald (hk : k < a ∨ a + 1 ≤ k) (tg : Nat) (i : Int32) : ia_ald (pQ h a X) k tg i = ia_ald h k tg i := th_ald hk tg i
theorem thQ_lald (hk : k < a ∨ a + 1 ≤ k) (i : Int32) : ia_lald (pQ h a X) k i = ia_lald h k i := th_lald hk i
theorem thQ_len (hk : k < a ∨ a + 1 ≤ k)  : ia_len (pQ h a X) k = ia_len h k := th_len hk
theorem thQ_ast (hk : k < a ∨ a + 1 ≤ k) (tg : Nat) (i x : Int32) : ia_ast (pQ h a X) k tg i x = (ia_ast h k tg i x).map fun g => pQ g a X := th_ast hk tg i x
theorem thQ_last (hk : k < a ∨ a + 1 ≤ k) (i : Int32) (x : Int64) : ia_last (pQ h a X) k i x = (ia_last h k i x).map fun g => pQ g a X := th_last hk i x
theorem thQ_putf (hk : k < a ∨ a + 1 ≤ k) (c s : Nat) (v : Value) : ia_putf (pQ h a X) k c s v = (ia_putf h k c s v).map fun g => pQ g a X := th_putf hk c s v
end THQ
/-- EngagedTone: ints 0 taped, 1 hasImage; rows 0 tape; longs ; references 0 told, 1 now, 2 image, 3 reader, 4 exchange, 5 foresight, 6 rumours, 7 deeds -/
def cN (a : Nat) (X : aG) : Nat → ia_E
  | 0 => .inr (.inr (9, [.ref (a + 1), .int (X.1 0), .ref (X.2.2.2.2 0), .ref (X.2.2.2.2 1), .ref (X.2.2.2.2 2), .int (X.1 1), .ref (X.2.2.2.2 3), .ref (X.2.2.2.2 4), .ref (X.2.2.2.2 5), .ref (X.2.2.2.2 6), .ref (X.2.2.2.2 7)]))
  | 1 => .inl (1, X.2.1 0)
  | _ => ia_dead
def pN (h : ia_H) (a : Nat) (X : aG) : ia_H := ia_put h a 2 (cN a X)
section GN
variable (h : ia_H) (a : Nat) (X : aG)
theorem pN_obj : (pN h a X).2.2 a = cN a X 0 := put_in0 (by decide)
theorem pN_cls : ia_cls (pN h a X) a = 9 := cls_of (pN_obj h a X)
theorem pN_I : ia_getI (pN h a X) a 9 1 = some (X.1 0) ∧ ia_getI (pN h a X) a 9 5 = some (X.1 1) :=
  ⟨getI_of (pN_obj h a X) rfl, getI_of (pN_obj h a X) rfl⟩
theorem pN_R : ia_getR (pN h a X) a 9 0 = some (a + 1) ∧ ia_getR (pN h a X) a 9 2 = some (X.2.2.2.2 0) ∧ ia_getR (pN h a X) a 9 3 = some (X.2.2.2.2 1) ∧ ia_getR (pN h a X) a 9 4 = some (X.2.2.2.2 2) ∧ ia_getR (pN h a X) a 9 6 = some (X.2.2.2.2 3) ∧ ia_getR (pN h a X) a 9 7 = some (X.2.2.2.2 4) ∧ ia_getR (pN h a X) a 9 8 = some (X.2.2.2.2 5) ∧ ia_getR (pN h a X) a 9 9 = some (X.2.2.2.2 6) ∧ ia_getR (pN h a X) a 9 10 = some (X.2.2.2.2 7) :=
  ⟨getR_of (pN_obj h a X) rfl, getR_of (pN_obj h a X) rfl, getR_of (pN_obj h a X) rfl, getR_of (pN_obj h a X) rfl, getR_of (pN_obj h a X) rfl, getR_of (pN_obj h a X) rfl, getR_of (pN_obj h a X) rfl, getR_of (pN_obj h a X) rfl, getR_of (pN_obj h a X) rfl⟩
theorem pN_ld : (∀ i, ia_ald (pN h a X) (a + 1) 1 i = rd (X.2.1 0) i) :=
  ald_of (put_in 1 (by decide))
theorem pN_a1 (l : List Int32) : ia_up (pN h a X) (a + 1) (.inl (1, l)) = pN h a (gA X 0 l) := by
  unfold pN
  rw [up_put 1 (by decide)]
  congr 1
  funext j
  match j with
  | 0 => rfl
  | 1 => rfl
  | j + 2 => rfl
theorem pN_st : (∀ i x, ia_ast (pN h a X) (a + 1) 1 i x = (wr (X.2.1 0) i x).map fun l => pN h a (gA X 0 l)) :=
  (fun i x => by rw [ast_of (show (pN h a X).2.2 (a + 1) = .inl (1, X.2.1 0) from put_in 1 (by decide))]; congr 1; funext l; exact pN_a1 h a X l)
theorem pN_o (X2 : aG) (fs : List Value) (h0 : cN a X2 0 = .inr (.inr (9, fs))) (h1 : ∀ j, cN a X2 (j + 1) = cN a X (j + 1)) : ia_up (pN h a X) a (.inr (.inr (9, fs))) = pN h a X2 := by
  unfold pN
  rw [up_put0 (by decide)]
  congr 1
  funext j
  match j with
  | 0 => exact h0.symm
  | j + 1 => exact (h1 j).symm
theorem cN_t {a : Nat} {X X2 : aG} (h1 : X2.2.1 = X.2.1) (h2 : X2.2.2.2.1 = X.2.2.2.1) (j : Nat) : cN a X2 (j + 1) = cN a X (j + 1) := by
  match j with
  | 0 => simp only [cN, h1, h2]
  | _ + 1 => rfl
theorem pN_pf : (∀ v, ia_putf (pN h a X) a 9 1 (.int v) = some (pN h a (gI X 0 v))) ∧ (∀ v, ia_putf (pN h a X) a 9 5 (.int v) = some (pN h a (gI X 1 v))) ∧ (∀ v, ia_putf (pN h a X) a 9 2 (.ref v) = some (pN h a (gR X 0 v))) ∧ (∀ v, ia_putf (pN h a X) a 9 3 (.ref v) = some (pN h a (gR X 1 v))) ∧ (∀ v, ia_putf (pN h a X) a 9 4 (.ref v) = some (pN h a (gR X 2 v))) ∧ (∀ v, ia_putf (pN h a X) a 9 6 (.ref v) = some (pN h a (gR X 3 v))) ∧ (∀ v, ia_putf (pN h a X) a 9 7 (.ref v) = some (pN h a (gR X 4 v))) ∧ (∀ v, ia_putf (pN h a X) a 9 8 (.ref v) = some (pN h a (gR X 5 v))) ∧ (∀ v, ia_putf (pN h a X) a 9 9 (.ref v) = some (pN h a (gR X 6 v))) ∧ (∀ v, ia_putf (pN h a X) a 9 10 (.ref v) = some (pN h a (gR X 7 v))) :=
  ⟨(fun v => by rw [putf_of (pN_obj h a X) (Nat.le_of_ble_eq_true rfl)]; exact congrArg some (pN_o h a X (gI X 0 v) _ rfl (cN_t rfl rfl))), (fun v => by rw [putf_of (pN_obj h a X) (Nat.le_of_ble_eq_true rfl)]; exact congrArg some (pN_o h a X (gI X 1 v) _ rfl (cN_t rfl rfl))), (fun v => by rw [putf_of (pN_obj h a X) (Nat.le_of_ble_eq_true rfl)]; exact congrArg some (pN_o h a X (gR X 0 v) _ rfl (cN_t rfl rfl))), (fun v => by rw [putf_of (pN_obj h a X) (Nat.le_of_ble_eq_true rfl)]; exact congrArg some (pN_o h a X (gR X 1 v) _ rfl (cN_t rfl rfl))), (fun v => by rw [putf_of (pN_obj h a X) (Nat.le_of_ble_eq_true rfl)]; exact congrArg some (pN_o h a X (gR X 2 v) _ rfl (cN_t rfl rfl))), (fun v => by rw [putf_of (pN_obj h a X) (Nat.le_of_ble_eq_true rfl)]; exact congrArg some (pN_o h a X (gR X 3 v) _ rfl (cN_t rfl rfl))), (fun v => by rw [putf_of (pN_obj h a X) (Nat.le_of_ble_eq_true rfl)]; exact congrArg some (pN_o h a X (gR X 4 v) _ rfl (cN_t rfl rfl))), (fun v => by rw [putf_of (pN_obj h a X) (Nat.le_of_ble_eq_true rfl)]; exact congrArg some (pN_o h a X (gR X 5 v) _ rfl (cN_t rfl rfl))), (fun v => by rw [putf_of (pN_obj h a X) (Nat.le_of_ble_eq_true rfl)]; exact congrArg some (pN_o h a X (gR X 6 v) _ rfl (cN_t rfl rfl))), (fun v => by rw [putf_of (pN_obj h a X) (Nat.le_of_ble_eq_true rfl)]; exact congrArg some (pN_o h a X (gR X 7 v) _ rfl (cN_t rfl rfl)))⟩
end GN
section THN
variable {h : ia_H} {a k : Nat} {X : aG}
theorem thN_cls (hk : k < a ∨ a + 2 ≤ k)  : ia_cls (pN h a X) k = ia_cls h k := th_cls hk
theorem thN_getI (hk : k < a ∨ a + 2 ≤ k) (c s : Nat) : ia_getI (pN h a X) k c s = ia_getI h k c s := th_getI hk c s
theorem thN_getR (hk : k < a ∨ a + 2 ≤ k) (c s : Nat) : ia_getR (pN h a X) k c s = ia_getR h k c s := th_getR hk c s
theorem thN_getL (hk : k < a ∨ a + 2 ≤ k) (c s : Nat) : ia_getL (pN h a X) k c s = ia_getL h k c s := th_getL hk c s
theorem thN_ald (hk : k < a ∨ a + 2 ≤ k) (tg : Nat) (i : Int32) : ia_ald (pN h a X) k tg i = ia_ald h k tg i := th_ald hk tg i
theorem thN_lald (hk : k < a ∨ a + 2 ≤ k) (i : Int32) : ia_lald (pN h a X) k i = ia_lald h k i := th_lald hk i
theorem thN_len (hk : k < a ∨ a + 2 ≤ k)  : ia_len (pN h a X) k = ia_len h k := th_len hk
theorem thN_ast (hk : k < a ∨ a + 2 ≤ k) (tg : Nat) (i x : Int32) : ia_ast (pN h a X) k tg i x = (ia_ast h k tg i x).map fun g => pN g a X := th_ast hk tg i x
theorem thN_last (hk : k < a ∨ a + 2 ≤ k) (i : Int32) (x : Int64) : ia_last (pN h a X) k i x = (ia_last h k i x).map fun g => pN g a X := th_last hk i x
theorem thN_putf (hk : k < a ∨ a + 2 ≤ k) (c s : Nat) (v : Value) : ia_putf (pN h a X) k c s v = (ia_putf h k c s v).map fun g => pN g a X := th_putf hk c s v
end THN
/-- EngagedToneModel: ints 0 thrown, 1 taped, 2 told, 3 lines, 4 size, 5 at, 6 place, 7 sort, 8 value, 9 fault, 10 faultPlace, 11 lastFault, 12 lastPlace, 13 open, 14 counted, 15 workedMany, 16 hasImage, 17 undoMany, 18 tryWhat, 19 tryMan, 20 linesTold, 21 isDrawing, 22 drawn, 23 shiftedMany, 24 shiftLeast, 25 shiftCode, 26 notes, 27 knownBy; rows 0 tape, 1 number, 2 manName, 3 vainOf, 4 purseAs, 5 toneMan, 6 toneFrom, 7 toneMany, 8 priceFrom, 9 priceOf, 10 callMan, 11 callTo, 12 callAt, 13 callLong, 14 sumFrom, 15 sumTo, 16 knotSort, 17 knotValue, 0 names, 1 worked, 18 quarter, 19 paid, 20 tones, 21 purseOf, 22 fameOf, 23 whoseTone, 24 fromTone, 25 manyTone, 26 howTone, 27 dueCall, 28 longCall, 29 howCall, 30 triedCall, 31 shifted, 32 stepsTo, 33 reached, 34 noteQuarter, 35 noteMan, 36 noteIs, 37 outs, 38 isOut; longs ; references  -/
def cM (a : Nat) (X : aG) : Nat → ia_E
  | 0 => .inr (.inr (10, [.int (X.1 0), .ref (a + 1), .int (X.1 1), .ref (a + 2), .ref (a + 3), .ref (a + 4), .ref (a + 5), .ref (a + 6), .ref (a + 7), .ref (a + 8), .ref (a + 9), .ref (a + 10), .ref (a + 11), .ref (a + 12), .ref (a + 13), .ref (a + 14), .ref (a + 15), .ref (a + 16), .ref (a + 17), .ref (a + 18), .int (X.1 2), .int (X.1 3), .int (X.1 4), .int (X.1 5), .int (X.1 6), .int (X.1 7), .int (X.1 8), .int (X.1 9), .int (X.1 10), .int (X.1 11), .int (X.1 12), .int (X.1 13), .int (X.1 14), .ref (a + 19), .ref (a + 20), .int (X.1 15), .ref (a + 21), .ref (a + 22), .ref (a + 23), .ref (a + 24), .ref (a + 25), .ref (a + 26), .ref (a + 27), .ref (a + 28), .ref (a + 29), .ref (a + 30), .ref (a + 31), .ref (a + 32), .ref (a + 33), .int (X.1 16), .int (X.1 17), .int (X.1 18), .int (X.1 19), .int (X.1 20), .int (X.1 21), .int (X.1 22), .ref (a + 34), .int (X.1 23), .int (X.1 24), .int (X.1 25), .ref (a + 35), .ref (a + 36), .int (X.1 26), .int (X.1 27), .ref (a + 37), .ref (a + 38), .ref (a + 39), .ref (a + 40), .ref (a + 41)]))
  | 1 => .inl (0, X.2.1 0)
  | 2 => .inl (0, X.2.1 1)
  | 3 => .inl (0, X.2.1 2)
  | 4 => .inl (0, X.2.1 3)
  | 5 => .inl (0, X.2.1 4)
  | 6 => .inl (0, X.2.1 5)
  | 7 => .inl (0, X.2.1 6)
  | 8 => .inl (0, X.2.1 7)
  | 9 => .inl (0, X.2.1 8)
  | 10 => .inl (0, X.2.1 9)
  | 11 => .inl (0, X.2.1 10)
  | 12 => .inl (0, X.2.1 11)
  | 13 => .inl (0, X.2.1 12)
  | 14 => .inl (0, X.2.1 13)
  | 15 => .inl (0, X.2.1 14)
  | 16 => .inl (0, X.2.1 15)
  | 17 => .inl (0, X.2.1 16)
  | 18 => .inl (0, X.2.1 17)
  | 19 => .inr (.inl (X.2.2.2.1 0))
  | 20 => .inr (.inl (X.2.2.2.1 1))
  | 21 => .inl (0, X.2.1 18)
  | 22 => .inl (0, X.2.1 19)
  | 23 => .inl (0, X.2.1 20)
  | 24 => .inl (0, X.2.1 21)
  | 25 => .inl (0, X.2.1 22)
  | 26 => .inl (0, X.2.1 23)
  | 27 => .inl (0, X.2.1 24)
  | 28 => .inl (0, X.2.1 25)
  | 29 => .inl (0, X.2.1 26)
  | 30 => .inl (0, X.2.1 27)
  | 31 => .inl (0, X.2.1 28)
  | 32 => .inl (0, X.2.1 29)
  | 33 => .inl (0, X.2.1 30)
  | 34 => .inl (0, X.2.1 31)
  | 35 => .inl (0, X.2.1 32)
  | 36 => .inl (0, X.2.1 33)
  | 37 => .inl (0, X.2.1 34)
  | 38 => .inl (0, X.2.1 35)
  | 39 => .inl (2, X.2.1 36)
  | 40 => .inl (0, X.2.1 37)
  | 41 => .inl (2, X.2.1 38)
  | _ => ia_dead
def pM (h : ia_H) (a : Nat) (X : aG) : ia_H := ia_put h a 42 (cM a X)
section GM
variable (h : ia_H) (a : Nat) (X : aG)
theorem pM_obj : (pM h a X).2.2 a = cM a X 0 := put_in0 (by decide)
theorem pM_cls : ia_cls (pM h a X) a = 10 := cls_of (pM_obj h a X)
theorem pM_I : ia_getI (pM h a X) a 10 0 = some (X.1 0) ∧ ia_getI (pM h a X) a 10 2 = some (X.1 1) ∧ ia_getI (pM h a X) a 10 20 = some (X.1 2) ∧ ia_getI (pM h a X) a 10 21 = some (X.1 3) ∧ ia_getI (pM h a X) a 10 22 = some (X.1 4) ∧ ia_getI (pM h a X) a 10 23 = some (X.1 5) ∧ ia_getI (pM h a X) a 10 24 = some (X.1 6) ∧ ia_getI (pM h a X) a 10 25 = some (X.1 7) ∧ ia_getI (pM h a X) a 10 26 = some (X.1 8) ∧ ia_getI (pM h a X) a 10 27 = some (X.1 9) ∧ ia_getI (pM h a X) a 10 28 = some (X.1 10) ∧ ia_getI (pM h a X) a 10 29 = some (X.1 11) ∧ ia_getI (pM h a X) a 10 30 = some (X.1 12) ∧ ia_getI (pM h a X) a 10 31 = some (X.1 13) ∧ ia_getI (pM h a X) a 10 32 = some (X.1 14) ∧ ia_getI (pM h a X) a 10 35 = some (X.1 15) ∧ ia_getI (pM h a X) a 10 49 = some (X.1 16) ∧ ia_getI (pM h a X) a 10 50 = some (X.1 17) ∧ ia_getI (pM h a X) a 10 51 = some (X.1 18) ∧ ia_getI (pM h a X) a 10 52 = some (X.1 19) ∧ ia_getI (pM h a X) a 10 53 = some (X.1 20) ∧ ia_getI (pM h a X) a 10 54 = some (X.1 21) ∧ ia_getI (pM h a X) a 10 55 = some (X.1 22) ∧ ia_getI (pM h a X) a 10 57 = some (X.1 23) ∧ ia_getI (pM h a X) a 10 58 = some (X.1 24) ∧ ia_getI (pM h a X) a 10 59 = some (X.1 25) ∧ ia_getI (pM h a X) a 10 62 = some (X.1 26) ∧ ia_getI (pM h a X) a 10 63 = some (X.1 27) :=
  ⟨getI_of (pM_obj h a X) rfl, getI_of (pM_obj h a X) rfl, getI_of (pM_obj h a X) rfl, getI_of (pM_obj h a X) rfl, getI_of (pM_obj h a X) rfl, getI_of (pM_obj h a X) rfl, getI_of (pM_obj h a X) rfl, getI_of (pM_obj h a X) rfl, getI_of (pM_obj h a X) rfl, getI_of (pM_obj h a X) rfl, getI_of (pM_obj h a X) rfl, getI_of (pM_obj h a X) rfl, getI_of (pM_obj h a X) rfl, getI_of (pM_obj h a X) rfl, getI_of (pM_obj h a X) rfl, getI_of (pM_obj h a X) rfl, getI_of (pM_obj h a X) rfl, getI_of (pM_obj h a X) rfl, getI_of (pM_obj h a X) rfl, getI_of (pM_obj h a X) rfl, getI_of (pM_obj h a X) rfl, getI_of (pM_obj h a X) rfl, getI_of (pM_obj h a X) rfl, getI_of (pM_obj h a X) rfl, getI_of (pM_obj h a X) rfl, getI_of (pM_obj h a X) rfl, getI_of (pM_obj h a X) rfl, getI_of (pM_obj h a X) rfl⟩
theorem pM_R : ia_getR (pM h a X) a 10 1 = some (a + 1) ∧ ia_getR (pM h a X) a 10 3 = some (a + 2) ∧ ia_getR (pM h a X) a 10 4 = some (a + 3) ∧ ia_getR (pM h a X) a 10 5 = some (a + 4) ∧ ia_getR (pM h a X) a 10 6 = some (a + 5) ∧ ia_getR (pM h a X) a 10 7 = some (a + 6) ∧ ia_getR (pM h a X) a 10 8 = some (a + 7) ∧ ia_getR (pM h a X) a 10 9 = some (a + 8) ∧ ia_getR (pM h a X) a 10 10 = some (a + 9) ∧ ia_getR (pM h a X) a 10 11 = some (a + 10) ∧ ia_getR (pM h a X) a 10 12 = some (a + 11) ∧ ia_getR (pM h a X) a 10 13 = some (a + 12) ∧ ia_getR (pM h a X) a 10 14 = some (a + 13) ∧ ia_getR (pM h a X) a 10 15 = some (a + 14) ∧ ia_getR (pM h a X) a 10 16 = some (a + 15) ∧ ia_getR (pM h a X) a 10 17 = some (a + 16) ∧ ia_getR (pM h a X) a 10 18 = some (a + 17) ∧ ia_getR (pM h a X) a 10 19 = some (a + 18) ∧ ia_getR (pM h a X) a 10 33 = some (a + 19) ∧ ia_getR (pM h a X) a 10 34 = some (a + 20) ∧ ia_getR (pM h a X) a 10 36 = some (a + 21) ∧ ia_getR (pM h a X) a 10 37 = some (a + 22) ∧ ia_getR (pM h a X) a 10 38 = some (a + 23) ∧ ia_getR (pM h a X) a 10 39 = some (a + 24) ∧ ia_getR (pM h a X) a 10 40 = some (a + 25) ∧ ia_getR (pM h a X) a 10 41 = some (a + 26) ∧ ia_getR (pM h a X) a 10 42 = some (a + 27) ∧ ia_getR (pM h a X) a 10 43 = some (a + 28) ∧ ia_getR (pM h a X) a 10 44 = some (a + 29) ∧ ia_getR (pM h a X) a 10 45 = some (a + 30) ∧ ia_getR (pM h a X) a 10 46 = some (a + 31) ∧ ia_getR (pM h a X) a 10 47 = some (a + 32) ∧ ia_getR (pM h a X) a 10 48 = some (a + 33) ∧ ia_getR (pM h a X) a 10 56 = some (a + 34) ∧ ia_getR (pM h a X) a 10 60 = some (a + 35) ∧ ia_getR (pM h a X) a 10 61 = some (a + 36) ∧ ia_getR (pM h a X) a 10 64 = some (a + 37) ∧ ia_getR (pM h a X) a 10 65 = some (a + 38) ∧ ia_getR (pM h a X) a 10 66 = some (a + 39) ∧ ia_getR (pM h a X) a 10 67 = some (a + 40) ∧ ia_getR (pM h a X) a 10 68 = some (a + 41) :=
  ⟨getR_of (pM_obj h a X) rfl, getR_of (pM_obj h a X) rfl, getR_of (pM_obj h a X) rfl, getR_of (pM_obj h a X) rfl, getR_of (pM_obj h a X) rfl, getR_of (pM_obj h a X) rfl, getR_of (pM_obj h a X) rfl, getR_of (pM_obj h a X) rfl, getR_of (pM_obj h a X) rfl, getR_of (pM_obj h a X) rfl, getR_of (pM_obj h a X) rfl, getR_of (pM_obj h a X) rfl, getR_of (pM_obj h a X) rfl, getR_of (pM_obj h a X) rfl, getR_of (pM_obj h a X) rfl, getR_of (pM_obj h a X) rfl, getR_of (pM_obj h a X) rfl, getR_of (pM_obj h a X) rfl, getR_of (pM_obj h a X) rfl, getR_of (pM_obj h a X) rfl, getR_of (pM_obj h a X) rfl, getR_of (pM_obj h a X) rfl, getR_of (pM_obj h a X) rfl, getR_of (pM_obj h a X) rfl, getR_of (pM_obj h a X) rfl, getR_of (pM_obj h a X) rfl, getR_of (pM_obj h a X) rfl, getR_of (pM_obj h a X) rfl, getR_of (pM_obj h a X) rfl, getR_of (pM_obj h a X) rfl, getR_of (pM_obj h a X) rfl, getR_of (pM_obj h a X) rfl, getR_of (pM_obj h a X) rfl, getR_of (pM_obj h a X) rfl, getR_of (pM_obj h a X) rfl, getR_of (pM_obj h a X) rfl, getR_of (pM_obj h a X) rfl, getR_of (pM_obj h a X) rfl, getR_of (pM_obj h a X) rfl, getR_of (pM_obj h a X) rfl, getR_of (pM_obj h a X) rfl⟩
theorem pM_ld : (∀ i, ia_ald (pM h a X) (a + 1) 0 i = rd (X.2.1 0) i) ∧ (∀ i, ia_ald (pM h a X) (a + 2) 0 i = rd (X.2.1 1) i) ∧ (∀ i, ia_ald (pM h a X) (a + 3) 0 i = rd (X.2.1 2) i) ∧ (∀ i, ia_ald (pM h a X) (a + 4) 0 i = rd (X.2.1 3) i) ∧ (∀ i, ia_ald (pM h a X) (a + 5) 0 i = rd (X.2.1 4) i) ∧ (∀ i, ia_ald (pM h a X) (a + 6) 0 i = rd (X.2.1 5) i) ∧ (∀ i, ia_ald (pM h a X) (a + 7) 0 i = rd (X.2.1 6) i) ∧ (∀ i, ia_ald (pM h a X) (a + 8) 0 i = rd (X.2.1 7) i) ∧ (∀ i, ia_ald (pM h a X) (a + 9) 0 i = rd (X.2.1 8) i) ∧ (∀ i, ia_ald (pM h a X) (a + 10) 0 i = rd (X.2.1 9) i) ∧ (∀ i, ia_ald (pM h a X) (a + 11) 0 i = rd (X.2.1 10) i) ∧ (∀ i, ia_ald (pM h a X) (a + 12) 0 i = rd (X.2.1 11) i) ∧ (∀ i, ia_ald (pM h a X) (a + 13) 0 i = rd (X.2.1 12) i) ∧ (∀ i, ia_ald (pM h a X) (a + 14) 0 i = rd (X.2.1 13) i) ∧ (∀ i, ia_ald (pM h a X) (a + 15) 0 i = rd (X.2.1 14) i) ∧ (∀ i, ia_ald (pM h a X) (a + 16) 0 i = rd (X.2.1 15) i) ∧ (∀ i, ia_ald (pM h a X) (a + 17) 0 i = rd (X.2.1 16) i) ∧ (∀ i, ia_ald (pM h a X) (a + 18) 0 i = rd (X.2.1 17) i) ∧ (∀ i, ia_ald (pM h a X) (a + 21) 0 i = rd (X.2.1 18) i) ∧ (∀ i, ia_ald (pM h a X) (a + 22) 0 i = rd (X.2.1 19) i) ∧ (∀ i, ia_ald (pM h a X) (a + 23) 0 i = rd (X.2.1 20) i) ∧ (∀ i, ia_ald (pM h a X) (a + 24) 0 i = rd (X.2.1 21) i) ∧ (∀ i, ia_ald (pM h a X) (a + 25) 0 i = rd (X.2.1 22) i) ∧ (∀ i, ia_ald (pM h a X) (a + 26) 0 i = rd (X.2.1 23) i) ∧ (∀ i, ia_ald (pM h a X) (a + 27) 0 i = rd (X.2.1 24) i) ∧ (∀ i, ia_ald (pM h a X) (a + 28) 0 i = rd (X.2.1 25) i) ∧ (∀ i, ia_ald (pM h a X) (a + 29) 0 i = rd (X.2.1 26) i) ∧ (∀ i, ia_ald (pM h a X) (a + 30) 0 i = rd (X.2.1 27) i) ∧ (∀ i, ia_ald (pM h a X) (a + 31) 0 i = rd (X.2.1 28) i) ∧ (∀ i, ia_ald (pM h a X) (a + 32) 0 i = rd (X.2.1 29) i) ∧ (∀ i, ia_ald (pM h a X) (a + 33) 0 i = rd (X.2.1 30) i) ∧ (∀ i, ia_ald (pM h a X) (a + 34) 0 i = rd (X.2.1 31) i) ∧ (∀ i, ia_ald (pM h a X) (a + 35) 0 i = rd (X.2.1 32) i) ∧ (∀ i, ia_ald (pM h a X) (a + 36) 0 i = rd (X.2.1 33) i) ∧ (∀ i, ia_ald (pM h a X) (a + 37) 0 i = rd (X.2.1 34) i) ∧ (∀ i, ia_ald (pM h a X) (a + 38) 0 i = rd (X.2.1 35) i) ∧ (∀ i, ia_ald (pM h a X) (a + 39) 2 i = rd (X.2.1 36) i) ∧ (∀ i, ia_ald (pM h a X) (a + 40) 0 i = rd (X.2.1 37) i) ∧ (∀ i, ia_ald (pM h a X) (a + 41) 2 i = rd (X.2.1 38) i) :=
  ⟨ald_of (put_in 1 (by decide)), ald_of (put_in 2 (by decide)), ald_of (put_in 3 (by decide)), ald_of (put_in 4 (by decide)), ald_of (put_in 5 (by decide)), ald_of (put_in 6 (by decide)), ald_of (put_in 7 (by decide)), ald_of (put_in 8 (by decide)), ald_of (put_in 9 (by decide)), ald_of (put_in 10 (by decide)), ald_of (put_in 11 (by decide)), ald_of (put_in 12 (by decide)), ald_of (put_in 13 (by decide)), ald_of (put_in 14 (by decide)), ald_of (put_in 15 (by decide)), ald_of (put_in 16 (by decide)), ald_of (put_in 17 (by decide)), ald_of (put_in 18 (by decide)), ald_of (put_in 21 (by decide)), ald_of (put_in 22 (by decide)), ald_of (put_in 23 (by decide)), ald_of (put_in 24 (by decide)), ald_of (put_in 25 (by decide)), ald_of (put_in 26 (by decide)), ald_of (put_in 27 (by decide)), ald_of (put_in 28 (by decide)), ald_of (put_in 29 (by decide)), ald_of (put_in 30 (by decide)), ald_of (put_in 31 (by decide)), ald_of (put_in 32 (by decide)), ald_of (put_in 33 (by decide)), ald_of (put_in 34 (by decide)), ald_of (put_in 35 (by decide)), ald_of (put_in 36 (by decide)), ald_of (put_in 37 (by decide)), ald_of (put_in 38 (by decide)), ald_of (put_in 39 (by decide)), ald_of (put_in 40 (by decide)), ald_of (put_in 41 (by decide))⟩
theorem pM_ll : (∀ i, ia_lald (pM h a X) (a + 19) i = rd (X.2.2.2.1 0) i) ∧ (∀ i, ia_lald (pM h a X) (a + 20) i = rd (X.2.2.2.1 1) i) :=
  ⟨lald_of (put_in 19 (by decide)), lald_of (put_in 20 (by decide))⟩
theorem pM_a1 (l : List Int32) : ia_up (pM h a X) (a + 1) (.inl (0, l)) = pM h a (gA X 0 l) := by
  unfold pM
  rw [up_put 1 (by decide)]
  congr 1
  funext j
  match j with
  | 0 => rfl
  | 1 => rfl
  | 2 => rfl
  | 3 => rfl
  | 4 => rfl
  | 5 => rfl
  | 6 => rfl
  | 7 => rfl
  | 8 => rfl
  | 9 => rfl
  | 10 => rfl
  | 11 => rfl
  | 12 => rfl
  | 13 => rfl
  | 14 => rfl
  | 15 => rfl
  | 16 => rfl
  | 17 => rfl
  | 18 => rfl
  | 19 => rfl
  | 20 => rfl
  | 21 => rfl
  | 22 => rfl
  | 23 => rfl
  | 24 => rfl
  | 25 => rfl
  | 26 => rfl
  | 27 => rfl
  | 28 => rfl
  | 29 => rfl
  | 30 => rfl
  | 31 => rfl
  | 32 => rfl
  | 33 => rfl
  | 34 => rfl
  | 35 => rfl
  | 36 => rfl
  | 37 => rfl
  | 38 => rfl
  | 39 => rfl
  | 40 => rfl
  | 41 => rfl
  | j + 42 => rfl
theorem pM_a2 (l : List Int32) : ia_up (pM h a X) (a + 2) (.inl (0, l)) = pM h a (gA X 1 l) := by
  unfold pM
  rw [up_put 2 (by decide)]
  congr 1
  funext j
  match j with
  | 0 => rfl
  | 1 => rfl
  | 2 => rfl
  | 3 => rfl
  | 4 => rfl
  | 5 => rfl
  | 6 => rfl
  | 7 => rfl
  | 8 => rfl
  | 9 => rfl
  | 10 => rfl
  | 11 => rfl
  | 12 => rfl
  | 13 => rfl
  | 14 => rfl
  | 15 => rfl
  | 16 => rfl
  | 17 => rfl
  | 18 => rfl
  | 19 => rfl
  | 20 => rfl
  | 21 => rfl
  | 22 => rfl
  | 23 => rfl
  | 24 => rfl
  | 25 => rfl
  | 26 => rfl
  | 27 => rfl
  | 28 => rfl
  | 29 => rfl
  | 30 => rfl
  | 31 => rfl
  | 32 => rfl
  | 33 => rfl
  | 34 => rfl
  | 35 => rfl
  | 36 => rfl
  | 37 => rfl
  | 38 => rfl
  | 39 => rfl
  | 40 => rfl
  | 41 => rfl
  | j + 42 => rfl
theorem pM_a3 (l : List Int32) : ia_up (pM h a X) (a + 3) (.inl (0, l)) = pM h a (gA X 2 l) := by
  unfold pM
  rw [up_put 3 (by decide)]
  congr 1
  funext j
  match j with
  | 0 => rfl
  | 1 => rfl
  | 2 => rfl
  | 3 => rfl
  | 4 => rfl
  | 5 => rfl
  | 6 => rfl
  | 7 => rfl
  | 8 => rfl
  | 9 => rfl
  | 10 => rfl
  | 11 => rfl
  | 12 => rfl
  | 13 => rfl
  | 14 => rfl
  | 15 => rfl
  | 16 => rfl
  | 17 => rfl
  | 18 => rfl
  | 19 => rfl
  | 20 => rfl
  | 21 => rfl
  | 22 => rfl
  | 23 => rfl
  | 24 => rfl
  | 25 => rfl
  | 26 => rfl
  | 27 => rfl
  | 28 => rfl
  | 29 => rfl
  | 30 => rfl
  | 31 => rfl
  | 32 => rfl
  | 33 => rfl
  | 34 => rfl
  | 35 => rfl
  | 36 => rfl
  | 37 => rfl
  | 38 => rfl
  | 39 => rfl
  | 40 => rfl
  | 41 => rfl
  | j + 42 => rfl
theorem pM_a4 (l : List Int32) : ia_up (pM h a X) (a + 4) (.inl (0, l)) = pM h a (gA X 3 l) := by
  unfold pM
  rw [up_put 4 (by decide)]
  congr 1
  funext j
  match j with
  | 0 => rfl
  | 1 => rfl
  | 2 => rfl
  | 3 => rfl
  | 4 => rfl
  | 5 => rfl
  | 6 => rfl
  | 7 => rfl
  | 8 => rfl
  | 9 => rfl
  | 10 => rfl
  | 11 => rfl
  | 12 => rfl
  | 13 => rfl
  | 14 => rfl
  | 15 => rfl
  | 16 => rfl
  | 17 => rfl
  | 18 => rfl
  | 19 => rfl
  | 20 => rfl
  | 21 => rfl
  | 22 => rfl
  | 23 => rfl
  | 24 => rfl
  | 25 => rfl
  | 26 => rfl
  | 27 => rfl
  | 28 => rfl
  | 29 => rfl
  | 30 => rfl
  | 31 => rfl
  | 32 => rfl
  | 33 => rfl
  | 34 => rfl
  | 35 => rfl
  | 36 => rfl
  | 37 => rfl
  | 38 => rfl
  | 39 => rfl
  | 40 => rfl
  | 41 => rfl
  | j + 42 => rfl
theorem pM_a5 (l : List Int32) : ia_up (pM h a X) (a + 5) (.inl (0, l)) = pM h a (gA X 4 l) := by
  unfold pM
  rw [up_put 5 (by decide)]
  congr 1
  funext j
  match j with
  | 0 => rfl
  | 1 => rfl
  | 2 => rfl
  | 3 => rfl
  | 4 => rfl
  | 5 => rfl
  | 6 => rfl
  | 7 => rfl
  | 8 => rfl
  | 9 => rfl
  | 10 => rfl
  | 11 => rfl
  | 12 => rfl
  | 13 => rfl
  | 14 => rfl
  | 15 => rfl
  | 16 => rfl
  | 17 => rfl
  | 18 => rfl
  | 19 => rfl
  | 20 => rfl
  | 21 => rfl
  | 22 => rfl
  | 23 => rfl
  | 24 => rfl
  | 25 => rfl
  | 26 => rfl
  | 27 => rfl
  | 28 => rfl
  | 29 => rfl
  | 30 => rfl
  | 31 => rfl
  | 32 => rfl
  | 33 => rfl
  | 34 => rfl
  | 35 => rfl
  | 36 => rfl
  | 37 => rfl
  | 38 => rfl
  | 39 => rfl
  | 40 => rfl
  | 41 => rfl
  | j + 42 => rfl
theorem pM_a6 (l : List Int32) : ia_up (pM h a X) (a + 6) (.inl (0, l)) = pM h a (gA X 5 l) := by
  unfold pM
  rw [up_put 6 (by decide)]
  congr 1
  funext j
  match j with
  | 0 => rfl
  | 1 => rfl
  | 2 => rfl
  | 3 => rfl
  | 4 => rfl
  | 5 => rfl
  | 6 => rfl
  | 7 => rfl
  | 8 => rfl
  | 9 => rfl
  | 10 => rfl
  | 11 => rfl
  | 12 => rfl
  | 13 => rfl
  | 14 => rfl
  | 15 => rfl
  | 16 => rfl
  | 17 => rfl
  | 18 => rfl
  | 19 => rfl
  | 20 => rfl
  | 21 => rfl
  | 22 => rfl
  | 23 => rfl
  | 24 => rfl
  | 25 => rfl
  | 26 => rfl
  | 27 => rfl
  | 28 => rfl
  | 29 => rfl
  | 30 => rfl
  | 31 => rfl
  | 32 => rfl
  | 33 => rfl
  | 34 => rfl
  | 35 => rfl
  | 36 => rfl
  | 37 => rfl
  | 38 => rfl
  | 39 => rfl
  | 40 => rfl
  | 41 => rfl
  | j + 42 => rfl
theorem pM_a7 (l : List Int32) : ia_up (pM h a X) (a + 7) (.inl (0, l)) = pM h a (gA X 6 l) := by
  unfold pM
  rw [up_put 7 (by decide)]
  congr 1
  funext j
  match j with
  | 0 => rfl
  | 1 => rfl
  | 2 => rfl
  | 3 => rfl
  | 4 => rfl
  | 5 => rfl
  | 6 => rfl
  | 7 => rfl
  | 8 => rfl
  | 9 => rfl
  | 10 => rfl
  | 11 => rfl
  | 12 => rfl
  | 13 => rfl
  | 14 => rfl
  | 15 => rfl
  | 16 => rfl
  | 17 => rfl
  | 18 => rfl
  | 19 => rfl
  | 20 => rfl
  | 21 => rfl
  | 22 => rfl
  | 23 => rfl
  | 24 => rfl
  | 25 => rfl
  | 26 => rfl
  | 27 => rfl
  | 28 => rfl
  | 29 => rfl
  | 30 => rfl
  | 31 => rfl
  | 32 => rfl
  | 33 => rfl
  | 34 => rfl
  | 35 => rfl
  | 36 => rfl
  | 37 => rfl
  | 38 => rfl
  | 39 => rfl
  | 40 => rfl
  | 41 => rfl
  | j + 42 => rfl
theorem pM_a8 (l : List Int32) : ia_up (pM h a X) (a + 8) (.inl (0, l)) = pM h a (gA X 7 l) := by
  unfold pM
  rw [up_put 8 (by decide)]
  congr 1
  funext j
  match j with
  | 0 => rfl
  | 1 => rfl
  | 2 => rfl
  | 3 => rfl
  | 4 => rfl
  | 5 => rfl
  | 6 => rfl
  | 7 => rfl
  | 8 => rfl
  | 9 => rfl
  | 10 => rfl
  | 11 => rfl
  | 12 => rfl
  | 13 => rfl
  | 14 => rfl
  | 15 => rfl
  | 16 => rfl
  | 17 => rfl
  | 18 => rfl
  | 19 => rfl
  | 20 => rfl
  | 21 => rfl
  | 22 => rfl
  | 23 => rfl
  | 24 => rfl
  | 25 => rfl
  | 26 => rfl
  | 27 => rfl
  | 28 => rfl
  | 29 => rfl
  | 30 => rfl
  | 31 => rfl
  | 32 => rfl
  | 33 => rfl
  | 34 => rfl
  | 35 => rfl
  | 36 => rfl
  | 37 => rfl
  | 38 => rfl
  | 39 => rfl
  | 40 => rfl
  | 41 => rfl
  | j + 42 => rfl
theorem pM_a9 (l : List Int32) : ia_up (pM h a X) (a + 9) (.inl (0, l)) = pM h a (gA X 8 l) := by
  unfold pM
  rw [up_put 9 (by decide)]
  congr 1
  funext j
  match j with
  | 0 => rfl
  | 1 => rfl
  | 2 => rfl
  | 3 => rfl
  | 4 => rfl
  | 5 => rfl
  | 6 => rfl
  | 7 => rfl
  | 8 => rfl
  | 9 => rfl
  | 10 => rfl
  | 11 => rfl
  | 12 => rfl
  | 13 => rfl
  | 14 => rfl
  | 15 => rfl
  | 16 => rfl
  | 17 => rfl
  | 18 => rfl
  | 19 => rfl
  | 20 => rfl
  | 21 => rfl
  | 22 => rfl
  | 23 => rfl
  | 24 => rfl
  | 25 => rfl
  | 26 => rfl
  | 27 => rfl
  | 28 => rfl
  | 29 => rfl
  | 30 => rfl
  | 31 => rfl
  | 32 => rfl
  | 33 => rfl
  | 34 => rfl
  | 35 => rfl
  | 36 => rfl
  | 37 => rfl
  | 38 => rfl
  | 39 => rfl
  | 40 => rfl
  | 41 => rfl
  | j + 42 => rfl
theorem pM_a10 (l : List Int32) : ia_up (pM h a X) (a + 10) (.inl (0, l)) = pM h a (gA X 9 l) := by
  unfold pM
  rw [up_put 10 (by decide)]
  congr 1
  funext j
  match j with
  | 0 => rfl
  | 1 => rfl
  | 2 => rfl
  | 3 => rfl
  | 4 => rfl
  | 5 => rfl
  | 6 => rfl
  | 7 => rfl
  | 8 => rfl
  | 9 => rfl
  | 10 => rfl
  | 11 => rfl
  | 12 => rfl
  | 13 => rfl
  | 14 => rfl
  | 15 => rfl
  | 16 => rfl
  | 17 => rfl
  | 18 => rfl
  | 19 => rfl
  | 20 => rfl
  | 21 => rfl
  | 22 => rfl
  | 23 => rfl
  | 24 => rfl
  | 25 => rfl
  | 26 => rfl
  | 27 => rfl
  | 28 => rfl
  | 29 => rfl
  | 30 => rfl
  | 31 => rfl
  | 32 => rfl
  | 33 => rfl
  | 34 => rfl
  | 35 => rfl
  | 36 => rfl
  | 37 => rfl
  | 38 => rfl
  | 39 => rfl
  | 40 => rfl
  | 41 => rfl
  | j + 42 => rfl
theorem pM_a11 (l : List Int32) : ia_up (pM h a X) (a + 11) (.inl (0, l)) = pM h a (gA X 10 l) := by
  unfold pM
  rw [up_put 11 (by decide)]
  congr 1
  funext j
  match j with
  | 0 => rfl
  | 1 => rfl
  | 2 => rfl
  | 3 => rfl
  | 4 => rfl
  | 5 => rfl
  | 6 => rfl
  | 7 => rfl
  | 8 => rfl
  | 9 => rfl
  | 10 => rfl
  | 11 => rfl
  | 12 => rfl
  | 13 => rfl
  | 14 => rfl
  | 15 => rfl
  | 16 => rfl
  | 17 => rfl
  | 18 => rfl
  | 19 => rfl
  | 20 => rfl
  | 21 => rfl
  | 22 => rfl
  | 23 => rfl
  | 24 => rfl
  | 25 => rfl
  | 26 => rfl
  | 27 => rfl
  | 28 => rfl
  | 29 => rfl
  | 30 => rfl
  | 31 => rfl
  | 32 => rfl
  | 33 => rfl
  | 34 => rfl
  | 35 => rfl
  | 36 => rfl
  | 37 => rfl
  | 38 => rfl
  | 39 => rfl
  | 40 => rfl
  | 41 => rfl
  | j + 42 => rfl
theorem pM_a12 (l : List Int32) : ia_up (pM h a X) (a + 12) (.inl (0, l)) = pM h a (gA X 11 l) := by
  unfold pM
  rw [up_put 12 (by decide)]
  congr 1
  funext j
  match j with
  | 0 => rfl
  | 1 => rfl
  | 2 => rfl
  | 3 => rfl
  | 4 => rfl
  | 5 => rfl
  | 6 => rfl
  | 7 => rfl
  | 8 => rfl
  | 9 => rfl
  | 10 => rfl
  | 11 => rfl
  | 12 => rfl
  | 13 => rfl
  | 14 => rfl
  | 15 => rfl
  | 16 => rfl
  | 17 => rfl
  | 18 => rfl
  | 19 => rfl
  | 20 => rfl
  | 21 => rfl
  | 22 => rfl
  | 23 => rfl
  | 24 => rfl
  | 25 => rfl
  | 26 => rfl
  | 27 => rfl
  | 28 => rfl
  | 29 => rfl
  | 30 => rfl
  | 31 => rfl
  | 32 => rfl
  | 33 => rfl
  | 34 => rfl
  | 35 => rfl
  | 36 => rfl
  | 37 => rfl
  | 38 => rfl
  | 39 => rfl
  | 40 => rfl
  | 41 => rfl
  | j + 42 => rfl
theorem pM_a13 (l : List Int32) : ia_up (pM h a X) (a + 13) (.inl (0, l)) = pM h a (gA X 12 l) := by
  unfold pM
  rw [up_put 13 (by decide)]
  congr 1
  funext j
  match j with
  | 0 => rfl
  | 1 => rfl
  | 2 => rfl
  | 3 => rfl
  | 4 => rfl
  | 5 => rfl
  | 6 => rfl
  | 7 => rfl
  | 8 => rfl
  | 9 => rfl
  | 10 => rfl
  | 11 => rfl
  | 12 => rfl
  | 13 => rfl
  | 14 => rfl
  | 15 => rfl
  | 16 => rfl
  | 17 => rfl
  | 18 => rfl
  | 19 => rfl
  | 20 => rfl
  | 21 => rfl
  | 22 => rfl
  | 23 => rfl
  | 24 => rfl
  | 25 => rfl
  | 26 => rfl
  | 27 => rfl
  | 28 => rfl
  | 29 => rfl
  | 30 => rfl
  | 31 => rfl
  | 32 => rfl
  | 33 => rfl
  | 34 => rfl
  | 35 => rfl
  | 36 => rfl
  | 37 => rfl
  | 38 => rfl
  | 39 => rfl
  | 40 => rfl
  | 41 => rfl
  | j + 42 => rfl
theorem pM_a14 (l : List Int32) : ia_up (pM h a X) (a + 14) (.inl (0, l)) = pM h a (gA X 13 l) := by
  unfold pM
  rw [up_put 14 (by decide)]
  congr 1
  funext j
  match j with
  | 0 => rfl
  | 1 => rfl
  | 2 => rfl
  | 3 => rfl
  | 4 => rfl
  | 5 => rfl
  | 6 => rfl
  | 7 => rfl
  | 8 => rfl
  | 9 => rfl
  | 10 => rfl
  | 11 => rfl
  | 12 => rfl
  | 13 => rfl
  | 14 => rfl
  | 15 => rfl
  | 16 => rfl
  | 17 => rfl
  | 18 => rfl
  | 19 => rfl
  | 20 => rfl
  | 21 => rfl
  | 22 => rfl
  | 23 => rfl
  | 24 => rfl
  | 25 => rfl
  | 26 => rfl
  | 27 => rfl
  | 28 => rfl
  | 29 => rfl
  | 30 => rfl
  | 31 => rfl
  | 32 => rfl
  | 33 => rfl
  | 34 => rfl
  | 35 => rfl
  | 36 => rfl
  | 37 => rfl
  | 38 => rfl
  | 39 => rfl
  | 40 => rfl
  | 41 => rfl
  | j + 42 => rfl
theorem pM_a15 (l : List Int32) : ia_up (pM h a X) (a + 15) (.inl (0, l)) = pM h a (gA X 14 l) := by
  unfold pM
  rw [up_put 15 (by decide)]
  congr 1
  funext j
  match j with
  | 0 => rfl
  | 1 => rfl
  | 2 => rfl
  | 3 => rfl
  | 4 => rfl
  | 5 => rfl
  | 6 => rfl
  | 7 => rfl
  | 8 => rfl
  | 9 => rfl
  | 10 => rfl
  | 11 => rfl
  | 12 => rfl
  | 13 => rfl
  | 14 => rfl
  | 15 => rfl
  | 16 => rfl
  | 17 => rfl
  | 18 => rfl
  | 19 => rfl
  | 20 => rfl
  | 21 => rfl
  | 22 => rfl
  | 23 => rfl
  | 24 => rfl
  | 25 => rfl
  | 26 => rfl
  | 27 => rfl
  | 28 => rfl
  | 29 => rfl
  | 30 => rfl
  | 31 => rfl
  | 32 => rfl
  | 33 => rfl
  | 34 => rfl
  | 35 => rfl
  | 36 => rfl
  | 37 => rfl
  | 38 => rfl
  | 39 => rfl
  | 40 => rfl
  | 41 => rfl
  | j + 42 => rfl
theorem pM_a16 (l : List Int32) : ia_up (pM h a X) (a + 16) (.inl (0, l)) = pM h a (gA X 15 l) := by
  unfold pM
  rw [up_put 16 (by decide)]
  congr 1
  funext j
  match j with
  | 0 => rfl
  | 1 => rfl
  | 2 => rfl
  | 3 => rfl
  | 4 => rfl
  | 5 => rfl
  | 6 => rfl
  | 7 => rfl
  | 8 => rfl
  | 9 => rfl
  | 10 => rfl
  | 11 => rfl
  | 12 => rfl
  | 13 => rfl
  | 14 => rfl
  | 15 => rfl
  | 16 => rfl
  | 17 => rfl
  | 18 => rfl
  | 19 => rfl
  | 20 => rfl
  | 21 => rfl
  | 22 => rfl
  | 23 => rfl
  | 24 => rfl
  | 25 => rfl
  | 26 => rfl
  | 27 => rfl
  | 28 => rfl
  | 29 => rfl
  | 30 => rfl
  | 31 => rfl
  | 32 => rfl
  | 33 => rfl
  | 34 => rfl
  | 35 => rfl
  | 36 => rfl
  | 37 => rfl
  | 38 => rfl
  | 39 => rfl
  | 40 => rfl
  | 41 => rfl
  | j + 42 => rfl
theorem pM_a17 (l : List Int32) : ia_up (pM h a X) (a + 17) (.inl (0, l)) = pM h a (gA X 16 l) := by
  unfold pM
  rw [up_put 17 (by decide)]
  congr 1
  funext j
  match j with
  | 0 => rfl
  | 1 => rfl
  | 2 => rfl
  | 3 => rfl
  | 4 => rfl
  | 5 => rfl
  | 6 => rfl
  | 7 => rfl
  | 8 => rfl
  | 9 => rfl
  | 10 => rfl
  | 11 => rfl
  | 12 => rfl
  | 13 => rfl
  | 14 => rfl
  | 15 => rfl
  | 16 => rfl
  | 17 => rfl
  | 18 => rfl
  | 19 => rfl
  | 20 => rfl
  | 21 => rfl
  | 22 => rfl
  | 23 => rfl
  | 24 => rfl
  | 25 => rfl
  | 26 => rfl
  | 27 => rfl
  | 28 => rfl
  | 29 => rfl
  | 30 => rfl
  | 31 => rfl
  | 32 => rfl
  | 33 => rfl
  | 34 => rfl
  | 35 => rfl
  | 36 => rfl
  | 37 => rfl
  | 38 => rfl
  | 39 => rfl
  | 40 => rfl
  | 41 => rfl
  | j + 42 => rfl
theorem pM_a18 (l : List Int32) : ia_up (pM h a X) (a + 18) (.inl (0, l)) = pM h a (gA X 17 l) := by
  unfold pM
  rw [up_put 18 (by decide)]
  congr 1
  funext j
  match j with
  | 0 => rfl
  | 1 => rfl
  | 2 => rfl
  | 3 => rfl
  | 4 => rfl
  | 5 => rfl
  | 6 => rfl
  | 7 => rfl
  | 8 => rfl
  | 9 => rfl
  | 10 => rfl
  | 11 => rfl
  | 12 => rfl
  | 13 => rfl
  | 14 => rfl
  | 15 => rfl
  | 16 => rfl
  | 17 => rfl
  | 18 => rfl
  | 19 => rfl
  | 20 => rfl
  | 21 => rfl
  | 22 => rfl
  | 23 => rfl
  | 24 => rfl
  | 25 => rfl
  | 26 => rfl
  | 27 => rfl
  | 28 => rfl
  | 29 => rfl
  | 30 => rfl
  | 31 => rfl
  | 32 => rfl
  | 33 => rfl
  | 34 => rfl
  | 35 => rfl
  | 36 => rfl
  | 37 => rfl
  | 38 => rfl
  | 39 => rfl
  | 40 => rfl
  | 41 => rfl
  | j + 42 => rfl
theorem pM_a21 (l : List Int32) : ia_up (pM h a X) (a + 21) (.inl (0, l)) = pM h a (gA X 18 l) := by
  unfold pM
  rw [up_put 21 (by decide)]
  congr 1
  funext j
  match j with
  | 0 => rfl
  | 1 => rfl
  | 2 => rfl
  | 3 => rfl
  | 4 => rfl
  | 5 => rfl
  | 6 => rfl
  | 7 => rfl
  | 8 => rfl
  | 9 => rfl
  | 10 => rfl
  | 11 => rfl
  | 12 => rfl
  | 13 => rfl
  | 14 => rfl
  | 15 => rfl
  | 16 => rfl
  | 17 => rfl
  | 18 => rfl
  | 19 => rfl
  | 20 => rfl
  | 21 => rfl
  | 22 => rfl
  | 23 => rfl
  | 24 => rfl
  | 25 => rfl
  | 26 => rfl
  | 27 => rfl
  | 28 => rfl
  | 29 => rfl
  | 30 => rfl
  | 31 => rfl
  | 32 => rfl
  | 33 => rfl
  | 34 => rfl
  | 35 => rfl
  | 36 => rfl
  | 37 => rfl
  | 38 => rfl
  | 39 => rfl
  | 40 => rfl
  | 41 => rfl
  | j + 42 => rfl
theorem pM_a22 (l : List Int32) : ia_up (pM h a X) (a + 22) (.inl (0, l)) = pM h a (gA X 19 l) := by
  unfold pM
  rw [up_put 22 (by decide)]
  congr 1
  funext j
  match j with
  | 0 => rfl
  | 1 => rfl
  | 2 => rfl
  | 3 => rfl
  | 4 => rfl
  | 5 => rfl
  | 6 => rfl
  | 7 => rfl
  | 8 => rfl
  | 9 => rfl
  | 10 => rfl
  | 11 => rfl
  | 12 => rfl
  | 13 => rfl
  | 14 => rfl
  | 15 => rfl
  | 16 => rfl
  | 17 => rfl
  | 18 => rfl
  | 19 => rfl
  | 20 => rfl
  | 21 => rfl
  | 22 => rfl
  | 23 => rfl
  | 24 => rfl
  | 25 => rfl
  | 26 => rfl
  | 27 => rfl
  | 28 => rfl
  | 29 => rfl
  | 30 => rfl
  | 31 => rfl
  | 32 => rfl
  | 33 => rfl
  | 34 => rfl
  | 35 => rfl
  | 36 => rfl
  | 37 => rfl
  | 38 => rfl
  | 39 => rfl
  | 40 => rfl
  | 41 => rfl
  | j + 42 => rfl
theorem pM_a23 (l : List Int32) : ia_up (pM h a X) (a + 23) (.inl (0, l)) = pM h a (gA X 20 l) := by
  unfold pM
  rw [up_put 23 (by decide)]
  congr 1
  funext j
  match j with
  | 0 => rfl
  | 1 => rfl
  | 2 => rfl
  | 3 => rfl
  | 4 => rfl
  | 5 => rfl
  | 6 => rfl
  | 7 => rfl
  | 8 => rfl
  | 9 => rfl
  | 10 => rfl
  | 11 => rfl
  | 12 => rfl
  | 13 => rfl
  | 14 => rfl
  | 15 => rfl
  | 16 => rfl
  | 17 => rfl
  | 18 => rfl
  | 19 => rfl
  | 20 => rfl
  | 21 => rfl
  | 22 => rfl
  | 23 => rfl
  | 24 => rfl
  | 25 => rfl
  | 26 => rfl
  | 27 => rfl
  | 28 => rfl
  | 29 => rfl
  | 30 => rfl
  | 31 => rfl
  | 32 => rfl
  | 33 => rfl
  | 34 => rfl
  | 35 => rfl
  | 36 => rfl
  | 37 => rfl
  | 38 => rfl
  | 39 => rfl
  | 40 => rfl
  | 41 => rfl
  | j + 42 => rfl
theorem pM_a24 (l : List Int32) : ia_up (pM h a X) (a + 24) (.inl (0, l)) = pM h a (gA X 21 l) := by
  unfold pM
  rw [up_put 24 (by decide)]
  congr 1
  funext j
  match j with
  | 0 => rfl
  | 1 => rfl
  | 2 => rfl
  | 3 => rfl
  | 4 => rfl
  | 5 => rfl
  | 6 => rfl
  | 7 => rfl
  | 8 => rfl
  | 9 => rfl
  | 10 => rfl
  | 11 => rfl
  | 12 => rfl
  | 13 => rfl
  | 14 => rfl
  | 15 => rfl
  | 16 => rfl
  | 17 => rfl
  | 18 => rfl
  | 19 => rfl
  | 20 => rfl
  | 21 => rfl
  | 22 => rfl
  | 23 => rfl
  | 24 => rfl
  | 25 => rfl
  | 26 => rfl
  | 27 => rfl
  | 28 => rfl
  | 29 => rfl
  | 30 => rfl
  | 31 => rfl
  | 32 => rfl
  | 33 => rfl
  | 34 => rfl
  | 35 => rfl
  | 36 => rfl
  | 37 => rfl
  | 38 => rfl
  | 39 => rfl
  | 40 => rfl
  | 41 => rfl
  | j + 42 => rfl
theorem pM_a25 (l : List Int32) : ia_up (pM h a X) (a + 25) (.inl (0, l)) = pM h a (gA X 22 l) := by
  unfold pM
  rw [up_put 25 (by decide)]
  congr 1
  funext j
  match j with
  | 0 => rfl
  | 1 => rfl
  | 2 => rfl
  | 3 => rfl
  | 4 => rfl
  | 5 => rfl
  | 6 => rfl
  | 7 => rfl
  | 8 => rfl
  | 9 => rfl
  | 10 => rfl
  | 11 => rfl
  | 12 => rfl
  | 13 => rfl
  | 14 => rfl
  | 15 => rfl
  | 16 => rfl
  | 17 => rfl
  | 18 => rfl
  | 19 => rfl
  | 20 => rfl
  | 21 => rfl
  | 22 => rfl
  | 23 => rfl
  | 24 => rfl
  | 25 => rfl
  | 26 => rfl
  | 27 => rfl
  | 28 => rfl
  | 29 => rfl
  | 30 => rfl
  | 31 => rfl
  | 32 => rfl
  | 33 => rfl
  | 34 => rfl
  | 35 => rfl
  | 36 => rfl
  | 37 => rfl
  | 38 => rfl
  | 39 => rfl
  | 40 => rfl
  | 41 => rfl
  | j + 42 => rfl
theorem pM_a26 (l : List Int32) : ia_up (pM h a X) (a + 26) (.inl (0, l)) = pM h a (gA X 23 l) := by
  unfold pM
  rw [up_put 26 (by decide)]
  congr 1
  funext j
  match j with
  | 0 => rfl
  | 1 => rfl
  | 2 => rfl
  | 3 => rfl
  | 4 => rfl
  | 5 => rfl
  | 6 => rfl
  | 7 => rfl
  | 8 => rfl
  | 9 => rfl
  | 10 => rfl
  | 11 => rfl
  | 12 => rfl
  | 13 => rfl
  | 14 => rfl
  | 15 => rfl
  | 16 => rfl
  | 17 => rfl
  | 18 => rfl
  | 19 => rfl
  | 20 => rfl
  | 21 => rfl
  | 22 => rfl
  | 23 => rfl
  | 24 => rfl
  | 25 => rfl
  | 26 => rfl
  | 27 => rfl
  | 28 => rfl
  | 29 => rfl
  | 30 => rfl
  | 31 => rfl
  | 32 => rfl
  | 33 => rfl
  | 34 => rfl
  | 35 => rfl
  | 36 => rfl
  | 37 => rfl
  | 38 => rfl
  | 39 => rfl
  | 40 => rfl
  | 41 => rfl
  | j + 42 => rfl
theorem pM_a27 (l : List Int32) : ia_up (pM h a X) (a + 27) (.inl (0, l)) = pM h a (gA X 24 l) := by
  unfold pM
  rw [up_put 27 (by decide)]
  congr 1
  funext j
  match j with
  | 0 => rfl
  | 1 => rfl
  | 2 => rfl
  | 3 => rfl
  | 4 => rfl
  | 5 => rfl
  | 6 => rfl
  | 7 => rfl
  | 8 => rfl
  | 9 => rfl
  | 10 => rfl
  | 11 => rfl
  | 12 => rfl
  | 13 => rfl
  | 14 => rfl
  | 15 => rfl
  | 16 => rfl
  | 17 => rfl
  | 18 => rfl
  | 19 => rfl
  | 20 => rfl
  | 21 => rfl
  | 22 => rfl
  | 23 => rfl
  | 24 => rfl
  | 25 => rfl
  | 26 => rfl
  | 27 => rfl
  | 28 => rfl
  | 29 => rfl
  | 30 => rfl
  | 31 => rfl
  | 32 => rfl
  | 33 => rfl
  | 34 => rfl
  | 35 => rfl
  | 36 => rfl
  | 37 => rfl
  | 38 => rfl
  | 39 => rfl
  | 40 => rfl
  | 41 => rfl
  | j + 42 => rfl
theorem pM_a28 (l : List Int32) : ia_up (pM h a X) (a + 28) (.inl (0, l)) = pM h a (gA X 25 l) := by
  unfold pM
  rw [up_put 28 (by decide)]
  congr 1
  funext j
  match j with
  | 0 => rfl
  | 1 => rfl
  | 2 => rfl
  | 3 => rfl
  | 4 => rfl
  | 5 => rfl
  | 6 => rfl
  | 7 => rfl
  | 8 => rfl
  | 9 => rfl
  | 10 => rfl
  | 11 => rfl
  | 12 => rfl
  | 13 => rfl
  | 14 => rfl
  | 15 => rfl
  | 16 => rfl
  | 17 => rfl
  | 18 => rfl
  | 19 => rfl
  | 20 => rfl
  | 21 => rfl
  | 22 => rfl
  | 23 => rfl
  | 24 => rfl
  | 25 => rfl
  | 26 => rfl
  | 27 => rfl
  | 28 => rfl
  | 29 => rfl
  | 30 => rfl
  | 31 => rfl
  | 32 => rfl
  | 33 => rfl
  | 34 => rfl
  | 35 => rfl
  | 36 => rfl
  | 37 => rfl
  | 38 => rfl
  | 39 => rfl
  | 40 => rfl
  | 41 => rfl
  | j + 42 => rfl
theorem pM_a29 (l : List Int32) : ia_up (pM h a X) (a + 29) (.inl (0, l)) = pM h a (gA X 26 l) := by
  unfold pM
  rw [up_put 29 (by decide)]
  congr 1
  funext j
  match j with
  | 0 => rfl
  | 1 => rfl
  | 2 => rfl
  | 3 => rfl
  | 4 => rfl
  | 5 => rfl
  | 6 => rfl
  | 7 => rfl
  | 8 => rfl
  | 9 => rfl
  | 10 => rfl
  | 11 => rfl
  | 12 => rfl
  | 13 => rfl
  | 14 => rfl
  | 15 => rfl
  | 16 => rfl
  | 17 => rfl
  | 18 => rfl
  | 19 => rfl
  | 20 => rfl
  | 21 => rfl
  | 22 => rfl
  | 23 => rfl
  | 24 => rfl
  | 25 => rfl
  | 26 => rfl
  | 27 => rfl
  | 28 => rfl
  | 29 => rfl
  | 30 => rfl
  | 31 => rfl
  | 32 => rfl
  | 33 => rfl
  | 34 => rfl
  | 35 => rfl
  | 36 => rfl
  | 37 => rfl
  | 38 => rfl
  | 39 => rfl
  | 40 => rfl
  | 41 => rfl
  | j + 42 => rfl
theorem pM_a30 (l : List Int32) : ia_up (pM h a X) (a + 30) (.inl (0, l)) = pM h a (gA X 27 l) := by
  unfold pM
  rw [up_put 30 (by decide)]
  congr 1
  funext j
  match j with
  | 0 => rfl
  | 1 => rfl
  | 2 => rfl
  | 3 => rfl
  | 4 => rfl
  | 5 => rfl
  | 6 => rfl
  | 7 => rfl
  | 8 => rfl
  | 9 => rfl
  | 10 => rfl
  | 11 => rfl
  | 12 => rfl
  | 13 => rfl
  | 14 => rfl
  | 15 => rfl
  | 16 => rfl
  | 17 => rfl
  | 18 => rfl
  | 19 => rfl
  | 20 => rfl
  | 21 => rfl
  | 22 => rfl
  | 23 => rfl
  | 24 => rfl
  | 25 => rfl
  | 26 => rfl
  | 27 => rfl
  | 28 => rfl
  | 29 => rfl
  | 30 => rfl
  | 31 => rfl
  | 32 => rfl
  | 33 => rfl
  | 34 => rfl
  | 35 => rfl
  | 36 => rfl
  | 37 => rfl
  | 38 => rfl
  | 39 => rfl
  | 40 => rfl
  | 41 => rfl
  | j + 42 => rfl
theorem pM_a31 (l : List Int32) : ia_up (pM h a X) (a + 31) (.inl (0, l)) = pM h a (gA X 28 l) := by
  unfold pM
  rw [up_put 31 (by decide)]
  congr 1
  funext j
  match j with
  | 0 => rfl
  | 1 => rfl
  | 2 => rfl
  | 3 => rfl
  | 4 => rfl
  | 5 => rfl
  | 6 => rfl
  | 7 => rfl
  | 8 => rfl
  | 9 => rfl
  | 10 => rfl
  | 11 => rfl
  | 12 => rfl
  | 13 => rfl
  | 14 => rfl
  | 15 => rfl
  | 16 => rfl
  | 17 => rfl
  | 18 => rfl
  | 19 => rfl
  | 20 => rfl
  | 21 => rfl
  | 22 => rfl
  | 23 => rfl
  | 24 => rfl
  | 25 => rfl
  | 26 => rfl
  | 27 => rfl
  | 28 => rfl
  | 29 => rfl
  | 30 => rfl
  | 31 => rfl
  | 32 => rfl
  | 33 => rfl
  | 34 => rfl
  | 35 => rfl
  | 36 => rfl
  | 37 => rfl
  | 38 => rfl
  | 39 => rfl
  | 40 => rfl
  | 41 => rfl
  | j + 42 => rfl
theorem pM_a32 (l : List Int32) : ia_up (pM h a X) (a + 32) (.inl (0, l)) = pM h a (gA X 29 l) := by
  unfold pM
  rw [up_put 32 (by decide)]
  congr 1
  funext j
  match j with
  | 0 => rfl
  | 1 => rfl
  | 2 => rfl
  | 3 => rfl
  | 4 => rfl
  | 5 => rfl
  | 6 => rfl
  | 7 => rfl
  | 8 => rfl
  | 9 => rfl
  | 10 => rfl
  | 11 => rfl
  | 12 => rfl
  | 13 => rfl
  | 14 => rfl
  | 15 => rfl
  | 16 => rfl
  | 17 => rfl
  | 18 => rfl
  | 19 => rfl
  | 20 => rfl
  | 21 => rfl
  | 22 => rfl
  | 23 => rfl
  | 24 => rfl
  | 25 => rfl
  | 26 => rfl
  | 27 => rfl
  | 28 => rfl
  | 29 => rfl
  | 30 => rfl
  | 31 => rfl
  | 32 => rfl
  | 33 => rfl
  | 34 => rfl
  | 35 => rfl
  | 36 => rfl
  | 37 => rfl
  | 38 => rfl
  | 39 => rfl
  | 40 => rfl
  | 41 => rfl
  | j + 42 => rfl
theorem pM_a33 (l : List Int32) : ia_up (pM h a X) (a + 33) (.inl (0, l)) = pM h a (gA X 30 l) := by
  unfold pM
  rw [up_put 33 (by decide)]
  congr 1
  funext j
  match j with
  | 0 => rfl
  | 1 => rfl
  | 2 => rfl
  | 3 => rfl
  | 4 => rfl
  | 5 => rfl
  | 6 => rfl
  | 7 => rfl
  | 8 => rfl
  | 9 => rfl
  | 10 => rfl
  | 11 => rfl
  | 12 => rfl
  | 13 => rfl
  | 14 => rfl
  | 15 => rfl
  | 16 => rfl
  | 17 => rfl
  | 18 => rfl
  | 19 => rfl
  | 20 => rfl
  | 21 => rfl
  | 22 => rfl
  | 23 => rfl
  | 24 => rfl
  | 25 => rfl
  | 26 => rfl
  | 27 => rfl
  | 28 => rfl
  | 29 => rfl
  | 30 => rfl
  | 31 => rfl
  | 32 => rfl
  | 33 => rfl
  | 34 => rfl
  | 35 => rfl
  | 36 => rfl
  | 37 => rfl
  | 38 => rfl
  | 39 => rfl
  | 40 => rfl
  | 41 => rfl
  | j + 42 => rfl
theorem pM_a34 (l : List Int32) : ia_up (pM h a X) (a + 34) (.inl (0, l)) = pM h a (gA X 31 l) := by
  unfold pM
  rw [up_put 34 (by decide)]
  congr 1
  funext j
  match j with
  | 0 => rfl
  | 1 => rfl
  | 2 => rfl
  | 3 => rfl
  | 4 => rfl
  | 5 => rfl
  | 6 => rfl
  | 7 => rfl
  | 8 => rfl
  | 9 => rfl
  | 10 => rfl
  | 11 => rfl
  | 12 => rfl
  | 13 => rfl
  | 14 => rfl
  | 15 => rfl
  | 16 => rfl
  | 17 => rfl
  | 18 => rfl
  | 19 => rfl
  | 20 => rfl
  | 21 => rfl
  | 22 => rfl
  | 23 => rfl
  | 24 => rfl
  | 25 => rfl
  | 26 => rfl
  | 27 => rfl
  | 28 => rfl
  | 29 => rfl
  | 30 => rfl
  | 31 => rfl
  | 32 => rfl
  | 33 => rfl
  | 34 => rfl
  | 35 => rfl
  | 36 => rfl
  | 37 => rfl
  | 38 => rfl
  | 39 => rfl
  | 40 => rfl
  | 41 => rfl
  | j + 42 => rfl
theorem pM_a35 (l : List Int32) : ia_up (pM h a X) (a + 35) (.inl (0, l)) = pM h a (gA X 32 l) := by
  unfold pM
  rw [up_put 35 (by decide)]
  congr 1
  funext j
  match j with
  | 0 => rfl
  | 1 => rfl
  | 2 => rfl
  | 3 => rfl
  | 4 => rfl
  | 5 => rfl
  | 6 => rfl
  | 7 => rfl
  | 8 => rfl
  | 9 => rfl
  | 10 => rfl
  | 11 => rfl
  | 12 => rfl
  | 13 => rfl
  | 14 => rfl
  | 15 => rfl
  | 16 => rfl
  | 17 => rfl
  | 18 => rfl
  | 19 => rfl
  | 20 => rfl
  | 21 => rfl
  | 22 => rfl
  | 23 => rfl
  | 24 => rfl
  | 25 => rfl
  | 26 => rfl
  | 27 => rfl
  | 28 => rfl
  | 29 => rfl
  | 30 => rfl
  | 31 => rfl
  | 32 => rfl
  | 33 => rfl
  | 34 => rfl
  | 35 => rfl
  | 36 => rfl
  | 37 => rfl
  | 38 => rfl
  | 39 => rfl
  | 40 => rfl
  | 41 => rfl
  | j + 42 => rfl
theorem pM_a36 (l : List Int32) : ia_up (pM h a X) (a + 36) (.inl (0, l)) = pM h a (gA X 33 l) := by
  unfold pM
  rw [up_put 36 (by decide)]
  congr 1
  funext j
  match j with
  | 0 => rfl
  | 1 => rfl
  | 2 => rfl
  | 3 => rfl
  | 4 => rfl
  | 5 => rfl
  | 6 => rfl
  | 7 => rfl
  | 8 => rfl
  | 9 => rfl
  | 10 => rfl
  | 11 => rfl
  | 12 => rfl
  | 13 => rfl
  | 14 => rfl
  | 15 => rfl
  | 16 => rfl
  | 17 => rfl
  | 18 => rfl
  | 19 => rfl
  | 20 => rfl
  | 21 => rfl
  | 22 => rfl
  | 23 => rfl
  | 24 => rfl
  | 25 => rfl
  | 26 => rfl
  | 27 => rfl
  | 28 => rfl
  | 29 => rfl
  | 30 => rfl
  | 31 => rfl
  | 32 => rfl
  | 33 => rfl
  | 34 => rfl
  | 35 => rfl
  | 36 => rfl
  | 37 => rfl
  | 38 => rfl
  | 39 => rfl
  | 40 => rfl
  | 41 => rfl
  | j + 42 => rfl
theorem pM_a37 (l : List Int32) : ia_up (pM h a X) (a + 37) (.inl (0, l)) = pM h a (gA X 34 l) := by
  unfold pM
  rw [up_put 37 (by decide)]
  congr 1
  funext j
  match j with
  | 0 => rfl
  | 1 => rfl
  | 2 => rfl
  | 3 => rfl
  | 4 => rfl
  | 5 => rfl
  | 6 => rfl
  | 7 => rfl
  | 8 => rfl
  | 9 => rfl
  | 10 => rfl
  | 11 => rfl
  | 12 => rfl
  | 13 => rfl
  | 14 => rfl
  | 15 => rfl
  | 16 => rfl
  | 17 => rfl
  | 18 => rfl
  | 19 => rfl
  | 20 => rfl
  | 21 => rfl
  | 22 => rfl
  | 23 => rfl
  | 24 => rfl
  | 25 => rfl
  | 26 => rfl
  | 27 => rfl
  | 28 => rfl
  | 29 => rfl
  | 30 => rfl
  | 31 => rfl
  | 32 => rfl
  | 33 => rfl
  | 34 => rfl
  | 35 => rfl
  | 36 => rfl
  | 37 => rfl
  | 38 => rfl
  | 39 => rfl
  | 40 => rfl
  | 41 => rfl
  | j + 42 => rfl
theorem pM_a38 (l : List Int32) : ia_up (pM h a X) (a + 38) (.inl (0, l)) = pM h a (gA X 35 l) := by
  unfold pM
  rw [up_put 38 (by decide)]
  congr 1
  funext j
  match j with
  | 0 => rfl
  | 1 => rfl
  | 2 => rfl
  | 3 => rfl
  | 4 => rfl
  | 5 => rfl
  | 6 => rfl
  | 7 => rfl
  | 8 => rfl
  | 9 => rfl
  | 10 => rfl
  | 11 => rfl
  | 12 => rfl
  | 13 => rfl
  | 14 => rfl
  | 15 => rfl
  | 16 => rfl
  | 17 => rfl
  | 18 => rfl
  | 19 => rfl
  | 20 => rfl
  | 21 => rfl
  | 22 => rfl
  | 23 => rfl
  | 24 => rfl
  | 25 => rfl
  | 26 => rfl
  | 27 => rfl
  | 28 => rfl
  | 29 => rfl
  | 30 => rfl
  | 31 => rfl
  | 32 => rfl
  | 33 => rfl
  | 34 => rfl
  | 35 => rfl
  | 36 => rfl
  | 37 => rfl
  | 38 => rfl
  | 39 => rfl
  | 40 => rfl
  | 41 => rfl
  | j + 42 => rfl
theorem pM_a39 (l : List Int32) : ia_up (pM h a X) (a + 39) (.inl (2, l)) = pM h a (gA X 36 l) := by
  unfold pM
  rw [up_put 39 (by decide)]
  congr 1
  funext j
  match j with
  | 0 => rfl
  | 1 => rfl
  | 2 => rfl
  | 3 => rfl
  | 4 => rfl
  | 5 => rfl
  | 6 => rfl
  | 7 => rfl
  | 8 => rfl
  | 9 => rfl
  | 10 => rfl
  | 11 => rfl
  | 12 => rfl
  | 13 => rfl
  | 14 => rfl
  | 15 => rfl
  | 16 => rfl
  | 17 => rfl
  | 18 => rfl
  | 19 => rfl
  | 20 => rfl
  | 21 => rfl
  | 22 => rfl
  | 23 => rfl
  | 24 => rfl
  | 25 => rfl
  | 26 => rfl
  | 27 => rfl
  | 28 => rfl
  | 29 => rfl
  | 30 => rfl
  | 31 => rfl
  | 32 => rfl
  | 33 => rfl
  | 34 => rfl
  | 35 => rfl
  | 36 => rfl
  | 37 => rfl
  | 38 => rfl
  | 39 => rfl
  | 40 => rfl
  | 41 => rfl
  | j + 42 => rfl
theorem pM_a40 (l : List Int32) : ia_up (pM h a X) (a + 40) (.inl (0, l)) = pM h a (gA X 37 l) := by
  unfold pM
  rw [up_put 40 (by decide)]
  congr 1
  funext j
  match j with
  | 0 => rfl
  | 1 => rfl
  | 2 => rfl
  | 3 => rfl
  | 4 => rfl
  | 5 => rfl
  | 6 => rfl
  | 7 => rfl
  | 8 => rfl
  | 9 => rfl
  | 10 => rfl
  | 11 => rfl
  | 12 => rfl
  | 13 => rfl
  | 14 => rfl
  | 15 => rfl
  | 16 => rfl
  | 17 => rfl
  | 18 => rfl
  | 19 => rfl
  | 20 => rfl
  | 21 => rfl
  | 22 => rfl
  | 23 => rfl
  | 24 => rfl
  | 25 => rfl
  | 26 => rfl
  | 27 => rfl
  | 28 => rfl
  | 29 => rfl
  | 30 => rfl
  | 31 => rfl
  | 32 => rfl
  | 33 => rfl
  | 34 => rfl
  | 35 => rfl
  | 36 => rfl
  | 37 => rfl
  | 38 => rfl
  | 39 => rfl
  | 40 => rfl
  | 41 => rfl
  | j + 42 => rfl
theorem pM_a41 (l : List Int32) : ia_up (pM h a X) (a + 41) (.inl (2, l)) = pM h a (gA X 38 l) := by
  unfold pM
  rw [up_put 41 (by decide)]
  congr 1
  funext j
  match j with
  | 0 => rfl
  | 1 => rfl
  | 2 => rfl
  | 3 => rfl
  | 4 => rfl
  | 5 => rfl
  | 6 => rfl
  | 7 => rfl
  | 8 => rfl
  | 9 => rfl
  | 10 => rfl
  | 11 => rfl
  | 12 => rfl
  | 13 => rfl
  | 14 => rfl
  | 15 => rfl
  | 16 => rfl
  | 17 => rfl
  | 18 => rfl
  | 19 => rfl
  | 20 => rfl
  | 21 => rfl
  | 22 => rfl
  | 23 => rfl
  | 24 => rfl
  | 25 => rfl
  | 26 => rfl
  | 27 => rfl
  | 28 => rfl
  | 29 => rfl
  | 30 => rfl
  | 31 => rfl
  | 32 => rfl
  | 33 => rfl
  | 34 => rfl
  | 35 => rfl
  | 36 => rfl
  | 37 => rfl
  | 38 => rfl
  | 39 => rfl
  | 40 => rfl
  | 41 => rfl
  | j + 42 => rfl
theorem pM_b19 (l : List Int64) : ia_up (pM h a X) (a + 19) (.inr (.inl l)) = pM h a (gB X 0 l) := by
  unfold pM
  rw [up_put 19 (by decide)]
  congr 1
  funext j
  match j with
  | 0 => rfl
  | 1 => rfl
  | 2 => rfl
  | 3 => rfl
  | 4 => rfl
  | 5 => rfl
  | 6 => rfl
  | 7 => rfl
  | 8 => rfl
  | 9 => rfl
  | 10 => rfl
  | 11 => rfl
  | 12 => rfl
  | 13 => rfl
  | 14 => rfl
  | 15 => rfl
  | 16 => rfl
  | 17 => rfl
  | 18 => rfl
  | 19 => rfl
  | 20 => rfl
  | 21 => rfl
  | 22 => rfl
  | 23 => rfl
  | 24 => rfl
  | 25 => rfl
  | 26 => rfl
  | 27 => rfl
  | 28 => rfl
  | 29 => rfl
  | 30 => rfl
  | 31 => rfl
  | 32 => rfl
  | 33 => rfl
  | 34 => rfl
  | 35 => rfl
  | 36 => rfl
  | 37 => rfl
  | 38 => rfl
  | 39 => rfl
  | 40 => rfl
  | 41 => rfl
  | j + 42 => rfl
theorem pM_b20 (l : List Int64) : ia_up (pM h a X) (a + 20) (.inr (.inl l)) = pM h a (gB X 1 l) := by
  unfold pM
  rw [up_put 20 (by decide)]
  congr 1
  funext j
  match j with
  | 0 => rfl
  | 1 => rfl
  | 2 => rfl
  | 3 => rfl
  | 4 => rfl
  | 5 => rfl
  | 6 => rfl
  | 7 => rfl
  | 8 => rfl
  | 9 => rfl
  | 10 => rfl
  | 11 => rfl
  | 12 => rfl
  | 13 => rfl
  | 14 => rfl
  | 15 => rfl
  | 16 => rfl
  | 17 => rfl
  | 18 => rfl
  | 19 => rfl
  | 20 => rfl
  | 21 => rfl
  | 22 => rfl
  | 23 => rfl
  | 24 => rfl
  | 25 => rfl
  | 26 => rfl
  | 27 => rfl
  | 28 => rfl
  | 29 => rfl
  | 30 => rfl
  | 31 => rfl
  | 32 => rfl
  | 33 => rfl
  | 34 => rfl
  | 35 => rfl
  | 36 => rfl
  | 37 => rfl
  | 38 => rfl
  | 39 => rfl
  | 40 => rfl
  | 41 => rfl
  | j + 42 => rfl
theorem pM_st : (∀ i x, ia_ast (pM h a X) (a + 1) 0 i x = (wr (X.2.1 0) i x).map fun l => pM h a (gA X 0 l)) ∧ (∀ i x, ia_ast (pM h a X) (a + 2) 0 i x = (wr (X.2.1 1) i x).map fun l => pM h a (gA X 1 l)) ∧ (∀ i x, ia_ast (pM h a X) (a + 3) 0 i x = (wr (X.2.1 2) i x).map fun l => pM h a (gA X 2 l)) ∧ (∀ i x, ia_ast (pM h a X) (a + 4) 0 i x = (wr (X.2.1 3) i x).map fun l => pM h a (gA X 3 l)) ∧ (∀ i x, ia_ast (pM h a X) (a + 5) 0 i x = (wr (X.2.1 4) i x).map fun l => pM h a (gA X 4 l)) ∧ (∀ i x, ia_ast (pM h a X) (a + 6) 0 i x = (wr (X.2.1 5) i x).map fun l => pM h a (gA X 5 l)) ∧ (∀ i x, ia_ast (pM h a X) (a + 7) 0 i x = (wr (X.2.1 6) i x).map fun l => pM h a (gA X 6 l)) ∧ (∀ i x, ia_ast (pM h a X) (a + 8) 0 i x = (wr (X.2.1 7) i x).map fun l => pM h a (gA X 7 l)) ∧ (∀ i x, ia_ast (pM h a X) (a + 9) 0 i x = (wr (X.2.1 8) i x).map fun l => pM h a (gA X 8 l)) ∧ (∀ i x, ia_ast (pM h a X) (a + 10) 0 i x = (wr (X.2.1 9) i x).map fun l => pM h a (gA X 9 l)) ∧ (∀ i x, ia_ast (pM h a X) (a + 11) 0 i x = (wr (X.2.1 10) i x).map fun l => pM h a (gA X 10 l)) ∧ (∀ i x, ia_ast (pM h a X) (a + 12) 0 i x = (wr (X.2.1 11) i x).map fun l => pM h a (gA X 11 l)) ∧ (∀ i x, ia_ast (pM h a X) (a + 13) 0 i x = (wr (X.2.1 12) i x).map fun l => pM h a (gA X 12 l)) ∧ (∀ i x, ia_ast (pM h a X) (a + 14) 0 i x = (wr (X.2.1 13) i x).map fun l => pM h a (gA X 13 l)) ∧ (∀ i x, ia_ast (pM h a X) (a + 15) 0 i x = (wr (X.2.1 14) i x).map fun l => pM h a (gA X 14 l)) ∧ (∀ i x, ia_ast (pM h a X) (a + 16) 0 i x = (wr (X.2.1 15) i x).map fun l => pM h a (gA X 15 l)) ∧ (∀ i x, ia_ast (pM h a X) (a + 17) 0 i x = (wr (X.2.1 16) i x).map fun l => pM h a (gA X 16 l)) ∧ (∀ i x, ia_ast (pM h a X) (a + 18) 0 i x = (wr (X.2.1 17) i x).map fun l => pM h a (gA X 17 l)) ∧ (∀ i x, ia_ast (pM h a X) (a + 21) 0 i x = (wr (X.2.1 18) i x).map fun l => pM h a (gA X 18 l)) ∧ (∀ i x, ia_ast (pM h a X) (a + 22) 0 i x = (wr (X.2.1 19) i x).map fun l => pM h a (gA X 19 l)) ∧ (∀ i x, ia_ast (pM h a X) (a + 23) 0 i x = (wr (X.2.1 20) i x).map fun l => pM h a (gA X 20 l)) ∧ (∀ i x, ia_ast (pM h a X) (a + 24) 0 i x = (wr (X.2.1 21) i x).map fun l => pM h a (gA X 21 l)) ∧ (∀ i x, ia_ast (pM h a X) (a + 25) 0 i x = (wr (X.2.1 22) i x).map fun l => pM h a (gA X 22 l)) ∧ (∀ i x, ia_ast (pM h a X) (a + 26) 0 i x = (wr (X.2.1 23) i x).map fun l => pM h a (gA X 23 l)) ∧ (∀ i x, ia_ast (pM h a X) (a + 27) 0 i x = (wr (X.2.1 24) i x).map fun l => pM h a (gA X 24 l)) ∧ (∀ i x, ia_ast (pM h a X) (a + 28) 0 i x = (wr (X.2.1 25) i x).map fun l => pM h a (gA X 25 l)) ∧ (∀ i x, ia_ast (pM h a X) (a + 29) 0 i x = (wr (X.2.1 26) i x).map fun l => pM h a (gA X 26 l)) ∧ (∀ i x, ia_ast (pM h a X) (a + 30) 0 i x = (wr (X.2.1 27) i x).map fun l => pM h a (gA X 27 l)) ∧ (∀ i x, ia_ast (pM h a X) (a + 31) 0 i x = (wr (X.2.1 28) i x).map fun l => pM h a (gA X 28 l)) ∧ (∀ i x, ia_ast (pM h a X) (a + 32) 0 i x = (wr (X.2.1 29) i x).map fun l => pM h a (gA X 29 l)) ∧ (∀ i x, ia_ast (pM h a X) (a + 33) 0 i x = (wr (X.2.1 30) i x).map fun l => pM h a (gA X 30 l)) ∧ (∀ i x, ia_ast (pM h a X) (a + 34) 0 i x = (wr (X.2.1 31) i x).map fun l => pM h a (gA X 31 l)) ∧ (∀ i x, ia_ast (pM h a X) (a + 35) 0 i x = (wr (X.2.1 32) i x).map fun l => pM h a (gA X 32 l)) ∧ (∀ i x, ia_ast (pM h a X) (a + 36) 0 i x = (wr (X.2.1 33) i x).map fun l => pM h a (gA X 33 l)) ∧ (∀ i x, ia_ast (pM h a X) (a + 37) 0 i x = (wr (X.2.1 34) i x).map fun l => pM h a (gA X 34 l)) ∧ (∀ i x, ia_ast (pM h a X) (a + 38) 0 i x = (wr (X.2.1 35) i x).map fun l => pM h a (gA X 35 l)) ∧ (∀ i x, ia_ast (pM h a X) (a + 39) 2 i x = (wr (X.2.1 36) i x).map fun l => pM h a (gA X 36 l)) ∧ (∀ i x, ia_ast (pM h a X) (a + 40) 0 i x = (wr (X.2.1 37) i x).map fun l => pM h a (gA X 37 l)) ∧ (∀ i x, ia_ast (pM h a X) (a + 41) 2 i x = (wr (X.2.1 38) i x).map fun l => pM h a (gA X 38 l)) :=
  ⟨(fun i x => by rw [ast_of (show (pM h a X).2.2 (a + 1) = .inl (0, X.2.1 0) from put_in 1 (by decide))]; congr 1; funext l; exact pM_a1 h a X l), (fun i x => by rw [ast_of (show (pM h a X).2.2 (a + 2) = .inl (0, X.2.1 1) from put_in 2 (by decide))]; congr 1; funext l; exact pM_a2 h a X l), (fun i x => by rw [ast_of (show (pM h a X).2.2 (a + 3) = .inl (0, X.2.1 2) from put_in 3 (by decide))]; congr 1; funext l; exact pM_a3 h a X l), (fun i x => by rw [ast_of (show (pM h a X).2.2 (a + 4) = .inl (0, X.2.1 3) from put_in 4 (by decide))]; congr 1; funext l; exact pM_a4 h a X l), (fun i x => by rw [ast_of (show (pM h a X).2.2 (a + 5) = .inl (0, X.2.1 4) from put_in 5 (by decide))]; congr 1; funext l; exact pM_a5 h a X l), (fun i x => by rw [ast_of (show (pM h a X).2.2 (a + 6) = .inl (0, X.2.1 5) from put_in 6 (by decide))]; congr 1; funext l; exact pM_a6 h a X l), (fun i x => by rw [ast_of (show (pM h a X).2.2 (a + 7) = .inl (0, X.2.1 6) from put_in 7 (by decide))]; congr 1; funext l; exact pM_a7 h a X l), (fun i x => by rw [ast_of (show (pM h a X).2.2 (a + 8) = .inl (0, X.2.1 7) from put_in 8 (by decide))]; congr 1; funext l; exact pM_a8 h a X l), (fun i x => by rw [ast_of (show (pM h a X).2.2 (a + 9) = .inl (0, X.2.1 8) from put_in 9 (by decide))]; congr 1; funext l; exact pM_a9 h a X l), (fun i x => by rw [ast_of (show (pM h a X).2.2 (a + 10) = .inl (0, X.2.1 9) from put_in 10 (by decide))]; congr 1; funext l; exact pM_a10 h a X l), (fun i x => by rw [ast_of (show (pM h a X).2.2 (a + 11) = .inl (0, X.2.1 10) from put_in 11 (by decide))]; congr 1; funext l; exact pM_a11 h a X l), (fun i x => by rw [ast_of (show (pM h a X).2.2 (a + 12) = .inl (0, X.2.1 11) from put_in 12 (by decide))]; congr 1; funext l; exact pM_a12 h a X l), (fun i x => by rw [ast_of (show (pM h a X).2.2 (a + 13) = .inl (0, X.2.1 12) from put_in 13 (by decide))]; congr 1; funext l; exact pM_a13 h a X l), (fun i x => by rw [ast_of (show (pM h a X).2.2 (a + 14) = .inl (0, X.2.1 13) from put_in 14 (by decide))]; congr 1; funext l; exact pM_a14 h a X l), (fun i x => by rw [ast_of (show (pM h a X).2.2 (a + 15) = .inl (0, X.2.1 14) from put_in 15 (by decide))]; congr 1; funext l; exact pM_a15 h a X l), (fun i x => by rw [ast_of (show (pM h a X).2.2 (a + 16) = .inl (0, X.2.1 15) from put_in 16 (by decide))]; congr 1; funext l; exact pM_a16 h a X l), (fun i x => by rw [ast_of (show (pM h a X).2.2 (a + 17) = .inl (0, X.2.1 16) from put_in 17 (by decide))]; congr 1; funext l; exact pM_a17 h a X l), (fun i x => by rw [ast_of (show (pM h a X).2.2 (a + 18) = .inl (0, X.2.1 17) from put_in 18 (by decide))]; congr 1; funext l; exact pM_a18 h a X l), (fun i x => by rw [ast_of (show (pM h a X).2.2 (a + 21) = .inl (0, X.2.1 18) from put_in 21 (by decide))]; congr 1; funext l; exact pM_a21 h a X l), (fun i x => by rw [ast_of (show (pM h a X).2.2 (a + 22) = .inl (0, X.2.1 19) from put_in 22 (by decide))]; congr 1; funext l; exact pM_a22 h a X l), (fun i x => by rw [ast_of (show (pM h a X).2.2 (a + 23) = .inl (0, X.2.1 20) from put_in 23 (by decide))]; congr 1; funext l; exact pM_a23 h a X l), (fun i x => by rw [ast_of (show (pM h a X).2.2 (a + 24) = .inl (0, X.2.1 21) from put_in 24 (by decide))]; congr 1; funext l; exact pM_a24 h a X l), (fun i x => by rw [ast_of (show (pM h a X).2.2 (a + 25) = .inl (0, X.2.1 22) from put_in 25 (by decide))]; congr 1; funext l; exact pM_a25 h a X l), (fun i x => by rw [ast_of (show (pM h a X).2.2 (a + 26) = .inl (0, X.2.1 23) from put_in 26 (by decide))]; congr 1; funext l; exact pM_a26 h a X l), (fun i x => by rw [ast_of (show (pM h a X).2.2 (a + 27) = .inl (0, X.2.1 24) from put_in 27 (by decide))]; congr 1; funext l; exact pM_a27 h a X l), (fun i x => by rw [ast_of (show (pM h a X).2.2 (a + 28) = .inl (0, X.2.1 25) from put_in 28 (by decide))]; congr 1; funext l; exact pM_a28 h a X l), (fun i x => by rw [ast_of (show (pM h a X).2.2 (a + 29) = .inl (0, X.2.1 26) from put_in 29 (by decide))]; congr 1; funext l; exact pM_a29 h a X l), (fun i x => by rw [ast_of (show (pM h a X).2.2 (a + 30) = .inl (0, X.2.1 27) from put_in 30 (by decide))]; congr 1; funext l; exact pM_a30 h a X l), (fun i x => by rw [ast_of (show (pM h a X).2.2 (a + 31) = .inl (0, X.2.1 28) from put_in 31 (by decide))]; congr 1; funext l; exact pM_a31 h a X l), (fun i x => by rw [ast_of (show (pM h a X).2.2 (a + 32) = .inl (0, X.2.1 29) from put_in 32 (by decide))]; congr 1; funext l; exact pM_a32 h a X l), (fun i x => by rw [ast_of (show (pM h a X).2.2 (a + 33) = .inl (0, X.2.1 30) from put_in 33 (by decide))]; congr 1; funext l; exact pM_a33 h a X l), (fun i x => by rw [ast_of (show (pM h a X).2.2 (a + 34) = .inl (0, X.2.1 31) from put_in 34 (by decide))]; congr 1; funext l; exact pM_a34 h a X l), (fun i x => by rw [ast_of (show (pM h a X).2.2 (a + 35) = .inl (0, X.2.1 32) from put_in 35 (by decide))]; congr 1; funext l; exact pM_a35 h a X l), (fun i x => by rw [ast_of (show (pM h a X).2.2 (a + 36) = .inl (0, X.2.1 33) from put_in 36 (by decide))]; congr 1; funext l; exact pM_a36 h a X l), (fun i x => by rw [ast_of (show (pM h a X).2.2 (a + 37) = .inl (0, X.2.1 34) from put_in 37 (by decide))]; congr 1; funext l; exact pM_a37 h a X l), (fun i x => by rw [ast_of (show (pM h a X).2.2 (a + 38) = .inl (0, X.2.1 35) from put_in 38 (by decide))]; congr 1; funext l; exact pM_a38 h a X l), (fun i x => by rw [ast_of (show (pM h a X).2.2 (a + 39) = .inl (2, X.2.1 36) from put_in 39 (by decide))]; congr 1; funext l; exact pM_a39 h a X l), (fun i x => by rw [ast_of (show (pM h a X).2.2 (a + 40) = .inl (0, X.2.1 37) from put_in 40 (by decide))]; congr 1; funext l; exact pM_a40 h a X l), (fun i x => by rw [ast_of (show (pM h a X).2.2 (a + 41) = .inl (2, X.2.1 38) from put_in 41 (by decide))]; congr 1; funext l; exact pM_a41 h a X l)⟩
theorem pM_ls : (∀ i x, ia_last (pM h a X) (a + 19) i x = (wr (X.2.2.2.1 0) i x).map fun l => pM h a (gB X 0 l)) ∧ (∀ i x, ia_last (pM h a X) (a + 20) i x = (wr (X.2.2.2.1 1) i x).map fun l => pM h a (gB X 1 l)) :=
  ⟨(fun i x => by rw [last_of (show (pM h a X).2.2 (a + 19) = .inr (.inl (X.2.2.2.1 0)) from put_in 19 (by decide))]; congr 1; funext l; exact pM_b19 h a X l), (fun i x => by rw [last_of (show (pM h a X).2.2 (a + 20) = .inr (.inl (X.2.2.2.1 1)) from put_in 20 (by decide))]; congr 1; funext l; exact pM_b20 h a X l)⟩
theorem pM_o (X2 : aG) (fs : List Value) (h0 : cM a X2 0 = .inr (.inr (10, fs))) (h1 : ∀ j, cM a X2 (j + 1) = cM a X (j + 1)) : ia_up (pM h a X) a (.inr (.inr (10, fs))) = pM h a X2 := by
  unfold pM
  rw [up_put0 (by decide)]
  congr 1
  funext j
  match j with
  | 0 => exact h0.symm
  | j + 1 => exact (h1 j).symm
theorem cM_t {a : Nat} {X X2 : aG} (h1 : X2.2.1 = X.2.1) (h2 : X2.2.2.2.1 = X.2.2.2.1) (j : Nat) : cM a X2 (j + 1) = cM a X (j + 1) := by
  match j with
  | 0 => simp only [cM, h1, h2]
  | 1 => simp only [cM, h1, h2]
  | 2 => simp only [cM, h1, h2]
  | 3 => simp only [cM, h1, h2]
  | 4 => simp only [cM, h1, h2]
  | 5 => simp only [cM, h1, h2]
  | 6 => simp only [cM, h1, h2]
  | 7 => simp only [cM, h1, h2]
  | 8 => simp only [cM, h1, h2]
  | 9 => simp only [cM, h1, h2]
  | 10 => simp only [cM, h1, h2]
  | 11 => simp only [cM, h1, h2]
  | 12 => simp only [cM, h1, h2]
  | 13 => simp only [cM, h1, h2]
  | 14 => simp only [cM, h1, h2]
  | 15 => simp only [cM, h1, h2]
  | 16 => simp only [cM, h1, h2]
  | 17 => simp only [cM, h1, h2]
  | 18 => simp only [cM, h1, h2]
  | 19 => simp only [cM, h1, h2]
  | 20 => simp only [cM, h1, h2]
  | 21 => simp only [cM, h1, h2]
  | 22 => simp only [cM, h1, h2]
  | 23 => simp only [cM, h1, h2]
  | 24 => simp only [cM, h1, h2]
  | 25 => simp only [cM, h1, h2]
  | 26 => simp only [cM, h1, h2]
  | 27 => simp only [cM, h1, h2]
  | 28 => simp only [cM, h1, h2]
  | 29 => simp only [cM, h1, h2]
  | 30 => simp only [cM, h1, h2]
  | 31 => simp only [cM, h1, h2]
  | 32 => simp only [cM, h1, h2]
  | 33 => simp only [cM, h1, h2]
  | 34 => simp only [cM, h1, h2]
  | 35 => simp only [cM, h1, h2]
  | 36 => simp only [cM, h1, h2]
  | 37 => simp only [cM, h1, h2]
  | 38 => simp only [cM, h1, h2]
  | 39 => simp only [cM, h1, h2]
  | 40 => simp only [cM, h1, h2]
  | _ + 41 => rfl
theorem pM_pf : (∀ v, ia_putf (pM h a X) a 10 0 (.int v) = some (pM h a (gI X 0 v))) ∧ (∀ v, ia_putf (pM h a X) a 10 2 (.int v) = some (pM h a (gI X 1 v))) ∧ (∀ v, ia_putf (pM h a X) a 10 20 (.int v) = some (pM h a (gI X 2 v))) ∧ (∀ v, ia_putf (pM h a X) a 10 21 (.int v) = some (pM h a (gI X 3 v))) ∧ (∀ v, ia_putf (pM h a X) a 10 22 (.int v) = some (pM h a (gI X 4 v))) ∧ (∀ v, ia_putf (pM h a X) a 10 23 (.int v) = some (pM h a (gI X 5 v))) ∧ (∀ v, ia_putf (pM h a X) a 10 24 (.int v) = some (pM h a (gI X 6 v))) ∧ (∀ v, ia_putf (pM h a X) a 10 25 (.int v) = some (pM h a (gI X 7 v))) ∧ (∀ v, ia_putf (pM h a X) a 10 26 (.int v) = some (pM h a (gI X 8 v))) ∧ (∀ v, ia_putf (pM h a X) a 10 27 (.int v) = some (pM h a (gI X 9 v))) ∧ (∀ v, ia_putf (pM h a X) a 10 28 (.int v) = some (pM h a (gI X 10 v))) ∧ (∀ v, ia_putf (pM h a X) a 10 29 (.int v) = some (pM h a (gI X 11 v))) ∧ (∀ v, ia_putf (pM h a X) a 10 30 (.int v) = some (pM h a (gI X 12 v))) ∧ (∀ v, ia_putf (pM h a X) a 10 31 (.int v) = some (pM h a (gI X 13 v))) ∧ (∀ v, ia_putf (pM h a X) a 10 32 (.int v) = some (pM h a (gI X 14 v))) ∧ (∀ v, ia_putf (pM h a X) a 10 35 (.int v) = some (pM h a (gI X 15 v))) ∧ (∀ v, ia_putf (pM h a X) a 10 49 (.int v) = some (pM h a (gI X 16 v))) ∧ (∀ v, ia_putf (pM h a X) a 10 50 (.int v) = some (pM h a (gI X 17 v))) ∧ (∀ v, ia_putf (pM h a X) a 10 51 (.int v) = some (pM h a (gI X 18 v))) ∧ (∀ v, ia_putf (pM h a X) a 10 52 (.int v) = some (pM h a (gI X 19 v))) ∧ (∀ v, ia_putf (pM h a X) a 10 53 (.int v) = some (pM h a (gI X 20 v))) ∧ (∀ v, ia_putf (pM h a X) a 10 54 (.int v) = some (pM h a (gI X 21 v))) ∧ (∀ v, ia_putf (pM h a X) a 10 55 (.int v) = some (pM h a (gI X 22 v))) ∧ (∀ v, ia_putf (pM h a X) a 10 57 (.int v) = some (pM h a (gI X 23 v))) ∧ (∀ v, ia_putf (pM h a X) a 10 58 (.int v) = some (pM h a (gI X 24 v))) ∧ (∀ v, ia_putf (pM h a X) a 10 59 (.int v) = some (pM h a (gI X 25 v))) ∧ (∀ v, ia_putf (pM h a X) a 10 62 (.int v) = some (pM h a (gI X 26 v))) ∧ (∀ v, ia_putf (pM h a X) a 10 63 (.int v) = some (pM h a (gI X 27 v))) :=
  ⟨(fun v => by rw [putf_of (pM_obj h a X) (Nat.le_of_ble_eq_true rfl)]; exact congrArg some (pM_o h a X (gI X 0 v) _ rfl (cM_t rfl rfl))), (fun v => by rw [putf_of (pM_obj h a X) (Nat.le_of_ble_eq_true rfl)]; exact congrArg some (pM_o h a X (gI X 1 v) _ rfl (cM_t rfl rfl))), (fun v => by rw [putf_of (pM_obj h a X) (Nat.le_of_ble_eq_true rfl)]; exact congrArg some (pM_o h a X (gI X 2 v) _ rfl (cM_t rfl rfl))), (fun v => by rw [putf_of (pM_obj h a X) (Nat.le_of_ble_eq_true rfl)]; exact congrArg some (pM_o h a X (gI X 3 v) _ rfl (cM_t rfl rfl))), (fun v => by rw [putf_of (pM_obj h a X) (Nat.le_of_ble_eq_true rfl)]; exact congrArg some (pM_o h a X (gI X 4 v) _ rfl (cM_t rfl rfl))), (fun v => by rw [putf_of (pM_obj h a X) (Nat.le_of_ble_eq_true rfl)]; exact congrArg some (pM_o h a X (gI X 5 v) _ rfl (cM_t rfl rfl))), (fun v => by rw [putf_of (pM_obj h a X) (Nat.le_of_ble_eq_true rfl)]; exact congrArg some (pM_o h a X (gI X 6 v) _ rfl (cM_t rfl rfl))), (fun v => by rw [putf_of (pM_obj h a X) (Nat.le_of_ble_eq_true rfl)]; exact congrArg some (pM_o h a X (gI X 7 v) _ rfl (cM_t rfl rfl))), (fun v => by rw [putf_of (pM_obj h a X) (Nat.le_of_ble_eq_true rfl)]; exact congrArg some (pM_o h a X (gI X 8 v) _ rfl (cM_t rfl rfl))), (fun v => by rw [putf_of (pM_obj h a X) (Nat.le_of_ble_eq_true rfl)]; exact congrArg some (pM_o h a X (gI X 9 v) _ rfl (cM_t rfl rfl))), (fun v => by rw [putf_of (pM_obj h a X) (Nat.le_of_ble_eq_true rfl)]; exact congrArg some (pM_o h a X (gI X 10 v) _ rfl (cM_t rfl rfl))), (fun v => by rw [putf_of (pM_obj h a X) (Nat.le_of_ble_eq_true rfl)]; exact congrArg some (pM_o h a X (gI X 11 v) _ rfl (cM_t rfl rfl))), (fun v => by rw [putf_of (pM_obj h a X) (Nat.le_of_ble_eq_true rfl)]; exact congrArg some (pM_o h a X (gI X 12 v) _ rfl (cM_t rfl rfl))), (fun v => by rw [putf_of (pM_obj h a X) (Nat.le_of_ble_eq_true rfl)]; exact congrArg some (pM_o h a X (gI X 13 v) _ rfl (cM_t rfl rfl))), (fun v => by rw [putf_of (pM_obj h a X) (Nat.le_of_ble_eq_true rfl)]; exact congrArg some (pM_o h a X (gI X 14 v) _ rfl (cM_t rfl rfl))), (fun v => by rw [putf_of (pM_obj h a X) (Nat.le_of_ble_eq_true rfl)]; exact congrArg some (pM_o h a X (gI X 15 v) _ rfl (cM_t rfl rfl))), (fun v => by rw [putf_of (pM_obj h a X) (Nat.le_of_ble_eq_true rfl)]; exact congrArg some (pM_o h a X (gI X 16 v) _ rfl (cM_t rfl rfl))), (fun v => by rw [putf_of (pM_obj h a X) (Nat.le_of_ble_eq_true rfl)]; exact congrArg some (pM_o h a X (gI X 17 v) _ rfl (cM_t rfl rfl))), (fun v => by rw [putf_of (pM_obj h a X) (Nat.le_of_ble_eq_true rfl)]; exact congrArg some (pM_o h a X (gI X 18 v) _ rfl (cM_t rfl rfl))), (fun v => by rw [putf_of (pM_obj h a X) (Nat.le_of_ble_eq_true rfl)]; exact congrArg some (pM_o h a X (gI X 19 v) _ rfl (cM_t rfl rfl))), (fun v => by rw [putf_of (pM_obj h a X) (Nat.le_of_ble_eq_true rfl)]; exact congrArg some (pM_o h a X (gI X 20 v) _ rfl (cM_t rfl rfl))), (fun v => by rw [putf_of (pM_obj h a X) (Nat.le_of_ble_eq_true rfl)]; exact congrArg some (pM_o h a X (gI X 21 v) _ rfl (cM_t rfl rfl))), (fun v => by rw [putf_of (pM_obj h a X) (Nat.le_of_ble_eq_true rfl)]; exact congrArg some (pM_o h a X (gI X 22 v) _ rfl (cM_t rfl rfl))), (fun v => by rw [putf_of (pM_obj h a X) (Nat.le_of_ble_eq_true rfl)]; exact congrArg some (pM_o h a X (gI X 23 v) _ rfl (cM_t rfl rfl))), (fun v => by rw [putf_of (pM_obj h a X) (Nat.le_of_ble_eq_true rfl)]; exact congrArg some (pM_o h a X (gI X 24 v) _ rfl (cM_t rfl rfl))), (fun v => by rw [putf_of (pM_obj h a X) (Nat.le_of_ble_eq_true rfl)]; exact congrArg some (pM_o h a X (gI X 25 v) _ rfl (cM_t rfl rfl))), (fun v => by rw [putf_of (pM_obj h a X) (Nat.le_of_ble_eq_true rfl)]; exact congrArg some (pM_o h a X (gI X 26 v) _ rfl (cM_t rfl rfl))), (fun v => by rw [putf_of (pM_obj h a X) (Nat.le_of_ble_eq_true rfl)]; exact congrArg some (pM_o h a X (gI X 27 v) _ rfl (cM_t rfl rfl)))⟩
end GM
section THM
variable {h : ia_H} {a k : Nat} {X : aG}
theorem thM_cls (hk : k < a ∨ a + 42 ≤ k)  : ia_cls (pM h a X) k = ia_cls h k := th_cls hk
theorem thM_getI (hk : k < a ∨ a + 42 ≤ k) (c s : Nat) : ia_getI (pM h a X) k c s = ia_getI h k c s := th_getI hk c s
theorem thM_getR (hk : k < a ∨ a + 42 ≤ k) (c s : Nat) : ia_getR (pM h a X) k c s = ia_getR h k c s := th_getR hk c s
theorem thM_getL (hk : k < a ∨ a + 42 ≤ k) (c s : Nat) : ia_getL (pM h a X) k c s = ia_getL h k c s := th_getL hk c s
theorem thM_ald (hk : k < a ∨ a + 42 ≤ k) (tg : Nat) (i : Int32) : ia_ald (pM h a X) k tg i = ia_ald h k tg i := th_ald hk tg i
theorem thM_lald (hk : k < a ∨ a + 42 ≤ k) (i : Int32) : ia_lald (pM h a X) k i = ia_lald h k i := th_lald hk i
theorem thM_len (hk : k < a ∨ a + 42 ≤ k)  : ia_len (pM h a X) k = ia_len h k := th_len hk
theorem thM_ast (hk : k < a ∨ a + 42 ≤ k) (tg : Nat) (i x : Int32) : ia_ast (pM h a X) k tg i x = (ia_ast h k tg i x).map fun g => pM g a X := th_ast hk tg i x
theorem thM_last (hk : k < a ∨ a + 42 ≤ k) (i : Int32) (x : Int64) : ia_last (pM h a X) k i x = (ia_last h k i x).map fun g => pM g a X := th_last hk i x
theorem thM_putf (hk : k < a ∨ a + 42 ≤ k) (c s : Nat) (v : Value) : ia_putf (pM h a X) k c s v = (ia_putf h k c s v).map fun g => pM g a X := th_putf hk c s v
end THM
