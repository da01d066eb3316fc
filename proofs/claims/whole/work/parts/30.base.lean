/-! Regions of the heap, reading and writing of rows, small numbers. -/
/-- the cells from a on are these n -/
def ia_put (h : ia_H) (a n : Nat) (f : Nat → ia_E) : ia_H := (h.1, h.2.1, fun k => if a ≤ k ∧ k < a + n then f (k - a) else h.2.2 k)
theorem put_in {h : ia_H} {a n : Nat} {f : Nat → ia_E} (j : Nat) (hj : j < n) : (ia_put h a n f).2.2 (a + j) = f j := by
  show (if a ≤ a + j ∧ a + j < a + n then f (a + j - a) else h.2.2 (a + j)) = f j
  rw [if_pos ⟨by omega, by omega⟩, Nat.add_sub_cancel_left]
theorem put_in0 {h : ia_H} {a n : Nat} {f : Nat → ia_E} (hn : 0 < n) : (ia_put h a n f).2.2 a = f 0 := put_in 0 hn
theorem put_out {h : ia_H} {a n k : Nat} {f : Nat → ia_E} (hk : k < a ∨ a + n ≤ k) : (ia_put h a n f).2.2 k = h.2.2 k := by
  show (if a ≤ k ∧ k < a + n then f (k - a) else h.2.2 k) = _
  rw [if_neg (by omega)]
theorem ia_ext {h g : ia_H} (h1 : h.1 = g.1) (h2 : h.2.1 = g.2.1) (h3 : ∀ k, h.2.2 k = g.2.2 k) : h = g := by
  obtain ⟨a, b, f⟩ := h
  obtain ⟨a', b', f'⟩ := g
  cases h1
  cases h2
  have : f = f' := funext h3
  rw [this]
theorem up_put {h : ia_H} {a n : Nat} {f : Nat → ia_E} (j : Nat) (hj : j < n) (e : ia_E) : ia_up (ia_put h a n f) (a + j) e = ia_put h a n (va_up f j e) := by
  refine ia_ext rfl rfl fun k => ?_
  show va_up (ia_put h a n f).2.2 (a + j) e k = if a ≤ k ∧ k < a + n then va_up f j e (k - a) else h.2.2 k
  by_cases hk : k = a + j
  · subst hk
    rw [if_pos ⟨by omega, by omega⟩, Nat.add_sub_cancel_left]
    simp [va_up]
  · simp only [va_up, hk, if_false]
    show (if a ≤ k ∧ k < a + n then f (k - a) else h.2.2 k) = _
    by_cases hin : a ≤ k ∧ k < a + n
    · rw [if_pos hin, if_pos hin, if_neg (by omega)]
    · rw [if_neg hin, if_neg hin]
theorem up_put0 {h : ia_H} {a n : Nat} {f : Nat → ia_E} (hn : 0 < n) (e : ia_E) : ia_up (ia_put h a n f) a e = ia_put h a n (va_up f 0 e) := up_put 0 hn e
theorem put_put {h : ia_H} {a n : Nat} {f g : Nat → ia_E} : ia_put (ia_put h a n f) a n g = ia_put h a n g := by
  refine ia_ext rfl rfl fun k => ?_
  show (if a ≤ k ∧ k < a + n then g (k - a) else (if a ≤ k ∧ k < a + n then f (k - a) else h.2.2 k)) = if a ≤ k ∧ k < a + n then g (k - a) else h.2.2 k
  split <;> rfl
theorem put_comm {h : ia_H} {a n b m : Nat} {f g : Nat → ia_E} (hd : a + n ≤ b ∨ b + m ≤ a) : ia_put (ia_put h a n f) b m g = ia_put (ia_put h b m g) a n f := by
  refine ia_ext rfl rfl fun k => ?_
  show (if b ≤ k ∧ k < b + m then g (k - b) else (if a ≤ k ∧ k < a + n then f (k - a) else h.2.2 k)) = if a ≤ k ∧ k < a + n then f (k - a) else (if b ≤ k ∧ k < b + m then g (k - b) else h.2.2 k)
  by_cases h1 : b ≤ k ∧ k < b + m
  · rw [if_pos h1, if_neg (by omega), if_pos h1]
  · rw [if_neg h1, if_neg h1]
theorem put_self {h : ia_H} {a n : Nat} {f : Nat → ia_E} (hf : ∀ j, j < n → h.2.2 (a + j) = f j) : ia_put h a n f = h := by
  refine ia_ext rfl rfl fun k => ?_
  show (if a ≤ k ∧ k < a + n then f (k - a) else h.2.2 k) = h.2.2 k
  split
  · rename_i q
    rw [← hf (k - a) (by omega), show a + (k - a) = k by omega]
  · rfl
/-- a row's place, read and written -/
def rd {α : Type} (l : List α) (i : Int32) : Option α := if i < 0 then none else l[i.toNatClampNeg]?
def wr {α : Type} (l : List α) (i : Int32) (x : α) : Option (List α) := if i < 0 then none else if i.toNatClampNeg < l.length then some (l.set i.toNatClampNeg x) else none
theorem rd_nI {α : Type} {l : List α} {k : Nat} (hk : k < 2 ^ 31) : rd l (nI k) = l[k]? := by
  unfold rd
  rw [if_neg (nI_pos hk), nI_clamp hk]
theorem wr_nI {α : Type} {l : List α} {k : Nat} {x : α} (hk : k < 2 ^ 31) (hl : k < l.length) : wr l (nI k) x = some (l.set k x) := by
  unfold wr
  rw [if_neg (nI_pos hk), nI_clamp hk, if_pos hl]
theorem ald_of {h : ia_H} {a tg : Nat} {l : List Int32} (e : h.2.2 a = .inl (tg, l)) (i : Int32) : ia_ald h a tg i = rd l i := by
  unfold ia_ald rd
  rw [e]
  simp
theorem ast_of {h : ia_H} {a tg : Nat} {l : List Int32} (e : h.2.2 a = .inl (tg, l)) (i x : Int32) : ia_ast h a tg i x = (wr l i x).map fun l' => ia_up h a (.inl (tg, l')) := by
  unfold ia_ast wr
  rw [e]
  simp only [if_true]
  split
  · rfl
  · split <;> rfl
theorem lald_of {h : ia_H} {a : Nat} {l : List Int64} (e : h.2.2 a = .inr (.inl l)) (i : Int32) : ia_lald h a i = rd l i := by
  unfold ia_lald rd
  rw [e]
theorem last_of {h : ia_H} {a : Nat} {l : List Int64} (e : h.2.2 a = .inr (.inl l)) (i : Int32) (x : Int64) : ia_last h a i x = (wr l i x).map fun l' => ia_up h a (.inr (.inl l')) := by
  unfold ia_last wr
  rw [e]
  simp only
  split
  · rfl
  · split <;> rfl
theorem getI_of {h : ia_H} {a ci k : Nat} {fs : List Value} {x : Int32} (e : h.2.2 a = .inr (.inr (ci, fs))) (hk : fs[k]? = some (.int x)) : ia_getI h a ci k = some x := by
  unfold ia_getI
  rw [e]
  simp [hk]
theorem getR_of {h : ia_H} {a ci k : Nat} {fs : List Value} {x : Nat} (e : h.2.2 a = .inr (.inr (ci, fs))) (hk : fs[k]? = some (.ref x)) : ia_getR h a ci k = some x := by
  unfold ia_getR
  rw [e]
  simp [hk]
theorem getL_of {h : ia_H} {a ci k : Nat} {fs : List Value} {x : Int64} (e : h.2.2 a = .inr (.inr (ci, fs))) (hk : fs[k]? = some (.long x)) : ia_getL h a ci k = some x := by
  unfold ia_getL
  rw [e]
  simp [hk]
theorem putf_of {h : ia_H} {a ci k : Nat} {fs : List Value} {v : Value} (e : h.2.2 a = .inr (.inr (ci, fs))) (hk : k < fs.length) : ia_putf h a ci k v = some (ia_up h a (.inr (.inr (ci, fs.set k v)))) := by
  unfold ia_putf
  rw [e]
  simp [hk]
theorem cls_of {h : ia_H} {a ci : Nat} {fs : List Value} (e : h.2.2 a = .inr (.inr (ci, fs))) : ia_cls h a = ci := by
  unfold ia_cls
  rw [e]
/-- World: quarter, paid, tones, rings; purse, fame, toneMan, toneFrom, toneMany, toneState, ringFrom, ringTo, ringDue, ringLong, ringState, ringTried -/
abbrev aW : Type := (Nat → Int32) × (Nat → List Int32)
def cW (a : Nat) (X : aW) : Nat → ia_E
  | 0 => .inr (.inr (8, [.int (X.1 0), .int (X.1 1), .ref (a + 1), .ref (a + 2), .int (X.1 2), .ref (a + 3), .ref (a + 4), .ref (a + 5), .ref (a + 6), .int (X.1 3), .ref (a + 7), .ref (a + 8), .ref (a + 9), .ref (a + 10), .ref (a + 11), .ref (a + 12)]))
  | k + 1 => .inl (0, X.2 k)
def pW (h : ia_H) (a : Nat) (X : aW) : ia_H := ia_put h a 13 (cW a X)
def sI (X : aW) (k : Nat) (v : Int32) : aW := (va_up X.1 k v, X.2)
def sA (X : aW) (k : Nat) (l : List Int32) : aW := (X.1, va_up X.2 k l)
section GW
variable (h : ia_H) (a : Nat) (X : aW)
theorem pW_obj : (pW h a X).2.2 a = cW a X 0 := put_in0 (by decide)
theorem pW_arr (k : Nat) (hk : k < 12) : (pW h a X).2.2 (a + (k + 1)) = .inl (0, X.2 k) := put_in (k + 1) (by omega)
theorem pW_cls : ia_cls (pW h a X) a = 8 := cls_of (pW_obj h a X)
theorem pW_I : ia_getI (pW h a X) a 8 0 = some (X.1 0) ∧ ia_getI (pW h a X) a 8 1 = some (X.1 1) ∧ ia_getI (pW h a X) a 8 4 = some (X.1 2) ∧ ia_getI (pW h a X) a 8 9 = some (X.1 3) :=
  ⟨getI_of (pW_obj h a X) rfl, getI_of (pW_obj h a X) rfl, getI_of (pW_obj h a X) rfl, getI_of (pW_obj h a X) rfl⟩
theorem pW_R : ia_getR (pW h a X) a 8 2 = some (a + 1) ∧ ia_getR (pW h a X) a 8 3 = some (a + 2) ∧ ia_getR (pW h a X) a 8 5 = some (a + 3) ∧ ia_getR (pW h a X) a 8 6 = some (a + 4) ∧ ia_getR (pW h a X) a 8 7 = some (a + 5) ∧ ia_getR (pW h a X) a 8 8 = some (a + 6) ∧ ia_getR (pW h a X) a 8 10 = some (a + 7) ∧ ia_getR (pW h a X) a 8 11 = some (a + 8) ∧ ia_getR (pW h a X) a 8 12 = some (a + 9) ∧ ia_getR (pW h a X) a 8 13 = some (a + 10) ∧ ia_getR (pW h a X) a 8 14 = some (a + 11) ∧ ia_getR (pW h a X) a 8 15 = some (a + 12) :=
  ⟨getR_of (pW_obj h a X) rfl, getR_of (pW_obj h a X) rfl, getR_of (pW_obj h a X) rfl, getR_of (pW_obj h a X) rfl, getR_of (pW_obj h a X) rfl, getR_of (pW_obj h a X) rfl, getR_of (pW_obj h a X) rfl, getR_of (pW_obj h a X) rfl, getR_of (pW_obj h a X) rfl, getR_of (pW_obj h a X) rfl, getR_of (pW_obj h a X) rfl, getR_of (pW_obj h a X) rfl⟩
theorem pW_ld : (∀ i, ia_ald (pW h a X) (a + 1) 0 i = rd (X.2 0) i) ∧ (∀ i, ia_ald (pW h a X) (a + 2) 0 i = rd (X.2 1) i) ∧ (∀ i, ia_ald (pW h a X) (a + 3) 0 i = rd (X.2 2) i) ∧ (∀ i, ia_ald (pW h a X) (a + 4) 0 i = rd (X.2 3) i) ∧ (∀ i, ia_ald (pW h a X) (a + 5) 0 i = rd (X.2 4) i) ∧ (∀ i, ia_ald (pW h a X) (a + 6) 0 i = rd (X.2 5) i) ∧ (∀ i, ia_ald (pW h a X) (a + 7) 0 i = rd (X.2 6) i) ∧ (∀ i, ia_ald (pW h a X) (a + 8) 0 i = rd (X.2 7) i) ∧ (∀ i, ia_ald (pW h a X) (a + 9) 0 i = rd (X.2 8) i) ∧ (∀ i, ia_ald (pW h a X) (a + 10) 0 i = rd (X.2 9) i) ∧ (∀ i, ia_ald (pW h a X) (a + 11) 0 i = rd (X.2 10) i) ∧ (∀ i, ia_ald (pW h a X) (a + 12) 0 i = rd (X.2 11) i) :=
  ⟨ald_of (pW_arr h a X 0 (by decide)), ald_of (pW_arr h a X 1 (by decide)), ald_of (pW_arr h a X 2 (by decide)), ald_of (pW_arr h a X 3 (by decide)), ald_of (pW_arr h a X 4 (by decide)), ald_of (pW_arr h a X 5 (by decide)), ald_of (pW_arr h a X 6 (by decide)), ald_of (pW_arr h a X 7 (by decide)), ald_of (pW_arr h a X 8 (by decide)), ald_of (pW_arr h a X 9 (by decide)), ald_of (pW_arr h a X 10 (by decide)), ald_of (pW_arr h a X 11 (by decide))⟩
theorem pW_up (k : Nat) (hk : k < 12) (l : List Int32) : ia_up (pW h a X) (a + (k + 1)) (.inl (0, l)) = pW h a (sA X k l) := by
  unfold pW
  rw [up_put (k + 1) (by omega)]
  congr 1
  funext j
  match j with
  | 0 => rfl
  | j + 1 =>
    show (if j + 1 = k + 1 then (Sum.inl (0, l) : ia_E) else .inl (0, X.2 j)) = .inl (0, if j = k then l else X.2 j)
    by_cases hj : j = k
    · rw [if_pos (by omega), if_pos hj]
    · rw [if_neg (by omega), if_neg hj]
theorem pW_ast (k : Nat) (hk : k < 12) (i x : Int32) : ia_ast (pW h a X) (a + (k + 1)) 0 i x = (wr (X.2 k) i x).map fun l => pW h a (sA X k l) := by
  rw [ast_of (pW_arr h a X k hk)]
  congr 1
  funext l
  exact pW_up h a X k hk l
theorem pW_st : (∀ i x, ia_ast (pW h a X) (a + 1) 0 i x = (wr (X.2 0) i x).map fun l => pW h a (sA X 0 l)) ∧ (∀ i x, ia_ast (pW h a X) (a + 2) 0 i x = (wr (X.2 1) i x).map fun l => pW h a (sA X 1 l)) ∧ (∀ i x, ia_ast (pW h a X) (a + 3) 0 i x = (wr (X.2 2) i x).map fun l => pW h a (sA X 2 l)) ∧ (∀ i x, ia_ast (pW h a X) (a + 4) 0 i x = (wr (X.2 3) i x).map fun l => pW h a (sA X 3 l)) ∧ (∀ i x, ia_ast (pW h a X) (a + 5) 0 i x = (wr (X.2 4) i x).map fun l => pW h a (sA X 4 l)) ∧ (∀ i x, ia_ast (pW h a X) (a + 6) 0 i x = (wr (X.2 5) i x).map fun l => pW h a (sA X 5 l)) ∧ (∀ i x, ia_ast (pW h a X) (a + 7) 0 i x = (wr (X.2 6) i x).map fun l => pW h a (sA X 6 l)) ∧ (∀ i x, ia_ast (pW h a X) (a + 8) 0 i x = (wr (X.2 7) i x).map fun l => pW h a (sA X 7 l)) ∧ (∀ i x, ia_ast (pW h a X) (a + 9) 0 i x = (wr (X.2 8) i x).map fun l => pW h a (sA X 8 l)) ∧ (∀ i x, ia_ast (pW h a X) (a + 10) 0 i x = (wr (X.2 9) i x).map fun l => pW h a (sA X 9 l)) ∧ (∀ i x, ia_ast (pW h a X) (a + 11) 0 i x = (wr (X.2 10) i x).map fun l => pW h a (sA X 10 l)) ∧ (∀ i x, ia_ast (pW h a X) (a + 12) 0 i x = (wr (X.2 11) i x).map fun l => pW h a (sA X 11 l)) :=
  ⟨pW_ast h a X 0 (by decide), pW_ast h a X 1 (by decide), pW_ast h a X 2 (by decide), pW_ast h a X 3 (by decide), pW_ast h a X 4 (by decide), pW_ast h a X 5 (by decide), pW_ast h a X 6 (by decide), pW_ast h a X 7 (by decide), pW_ast h a X 8 (by decide), pW_ast h a X 9 (by decide), pW_ast h a X 10 (by decide), pW_ast h a X 11 (by decide)⟩
theorem pW_upI (k : Nat) (fs : List Value) (v : Int32) (hfs : cW a (sI X k v) 0 = .inr (.inr (8, fs))) : ia_up (pW h a X) a (.inr (.inr (8, fs))) = pW h a (sI X k v) := by
  unfold pW
  rw [up_put0 (by decide)]
  congr 1
  funext j
  match j with
  | 0 => exact hfs.symm
  | j + 1 => rfl
theorem pW_pf : (∀ v, ia_putf (pW h a X) a 8 0 (.int v) = some (pW h a (sI X 0 v))) ∧ (∀ v, ia_putf (pW h a X) a 8 1 (.int v) = some (pW h a (sI X 1 v))) ∧ (∀ v, ia_putf (pW h a X) a 8 4 (.int v) = some (pW h a (sI X 2 v))) ∧ (∀ v, ia_putf (pW h a X) a 8 9 (.int v) = some (pW h a (sI X 3 v))) :=
  ⟨fun v => by rw [putf_of (pW_obj h a X) (Nat.le_of_ble_eq_true rfl)]; exact congrArg some (pW_upI h a X 0 _ v rfl), fun v => by rw [putf_of (pW_obj h a X) (Nat.le_of_ble_eq_true rfl)]; exact congrArg some (pW_upI h a X 1 _ v rfl), fun v => by rw [putf_of (pW_obj h a X) (Nat.le_of_ble_eq_true rfl)]; exact congrArg some (pW_upI h a X 2 _ v rfl), fun v => by rw [putf_of (pW_obj h a X) (Nat.le_of_ble_eq_true rfl)]; exact congrArg some (pW_upI h a X 3 _ v rfl)⟩
end GW
