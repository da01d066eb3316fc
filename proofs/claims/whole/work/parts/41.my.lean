/-! The reference: one of its desks shown as a world (written by genmy.py). -/
def blk (R : List Int32) (b : Nat) (l : List Int32) : List Int32 := R.take b ++ (l ++ R.drop (b + l.length))
theorem blk_len {R l : List Int32} {b : Nat} (h : b + l.length ≤ R.length) : (blk R b l).length = R.length := by
  unfold blk
  rw [List.length_append, List.length_append, List.length_take, List.length_drop]
  omega
theorem blk_in {R l : List Int32} {b i : Nat} (h : b + l.length ≤ R.length) (hi : i < l.length) : (blk R b l)[b + i]? = l[i]? := by
  unfold blk
  have ht : (R.take b).length = b := by rw [List.length_take]; omega
  rw [List.getElem?_append_right (by omega), ht, Nat.add_sub_cancel_left, List.getElem?_append_left hi]
theorem blk_out {R l : List Int32} {b i : Nat} (h : b + l.length ≤ R.length) (hi : i < b ∨ b + l.length ≤ i) : (blk R b l)[i]? = R[i]? := by
  unfold blk
  have ht : (R.take b).length = b := by rw [List.length_take]; omega
  rcases hi with hi | hi
  · rw [List.getElem?_append_left (by omega), List.getElem?_take, if_pos hi]
  · rw [List.getElem?_append_right (by omega), ht, List.getElem?_append_right (by omega), List.getElem?_drop]
    congr 1
    omega
theorem blk_set {R l : List Int32} {b i : Nat} {v : Int32} (h : b + l.length ≤ R.length) (hi : i < l.length) : (blk R b l).set (b + i) v = blk R b (l.set i v) := by
  have h2 : b + (l.set i v).length ≤ R.length := by rw [List.length_set]; exact h
  apply List.ext_getElem?
  intro j
  rw [List.getElem?_set, blk_len h]
  by_cases hj : b + i = j
  · subst hj
    rw [if_pos rfl, if_pos (by omega), blk_in h2 (by rw [List.length_set]; exact hi), List.getElem?_set, if_pos rfl, if_pos hi]
  · rw [if_neg hj]
    by_cases hin : j < b ∨ b + l.length ≤ j
    · rw [blk_out h hin, blk_out h2 (by rw [List.length_set]; exact hin)]
    · obtain ⟨k, rfl⟩ : ∃ k, j = b + k := ⟨j - b, by omega⟩
      rw [blk_in h (by omega), blk_in h2 (by rw [List.length_set]; omega), List.getElem?_set, if_neg (by omega)]
theorem blk_blk {R l m : List Int32} {b : Nat} (h : b + l.length ≤ R.length) (e : m.length = l.length) : blk (blk R b l) b m = blk R b m := by
  have h2 : b + m.length ≤ R.length := by omega
  have h3 : b + m.length ≤ (blk R b l).length := by rw [blk_len h]; exact h2
  apply List.ext_getElem?
  intro j
  by_cases hin : j < b ∨ b + m.length ≤ j
  · rw [blk_out h3 hin, blk_out h2 hin, blk_out h (by omega)]
  · obtain ⟨k, rfl⟩ : ∃ k, j = b + k := ⟨j - b, by omega⟩
    rw [blk_in h3 (by omega), blk_in h2 (by omega)]
theorem idx_nI {w : Nat} {wI : Int32} (hw : wI = nI w) (d c : Nat) : wI * nI d + nI c = nI (w * d + c) := by
  rw [hw, pk_mul, nI_add]
theorem rd_blk {R l : List Int32} {w d c : Nat} {wI : Int32} (hw : wI = nI w) (h : w * d + l.length ≤ R.length) (h31 : R.length < 2 ^ 31) (hc : c < l.length) : rd (blk R (w * d) l) (wI * nI d + nI c) = some (l.getD c 0) := by
  rw [idx_nI hw, rd_nI (by omega), blk_in h hc, List.getElem?_eq_getElem hc, List.getD_eq_getElem?_getD, List.getElem?_eq_getElem hc]
  rfl
theorem wr_blk {R l : List Int32} {w d c : Nat} {wI v : Int32} (hw : wI = nI w) (h : w * d + l.length ≤ R.length) (h31 : R.length < 2 ^ 31) (hc : c < l.length) : wr (blk R (w * d) l) (wI * nI d + nI c) v = some (blk R (w * d) (l.set c v)) := by
  rw [idx_nI hw, wr_nI (by omega) (by rw [blk_len h]; omega), blk_set h hc]
def wdM (k : Nat) : Nat := if k < 23 then 6 else if k < 27 then 8 else 10
def kwM (k : Nat) : Nat := if k < 27 then k - 21 else k - 19
def mwR (M : aG) (d : Nat) (X : aW) (k : Nat) : List Int32 := if k < 18 then M.2.1 k else if k < 21 then (M.2.1 k).set d (X.1 (k - 18)) else if k < 31 then blk (M.2.1 k) (wdM k * d) (X.2 (kwM k)) else M.2.1 k
/-- desk d as X tells; drawn, workedMany, names and worked -/
def mz (M : aG) (d : Nat) (X : aW) (dr wk : Int32) (sc : List Int64 × List Int64) : aG := (va_up (va_up M.1 15 wk) 22 dr, mwR M d X, M.2.2.1, va_up (va_up M.2.2.2.1 0 sc.1) 1 sc.2, M.2.2.2.2)
def my (h : ia_H) (a : Nat) (M : aG) (d : Nat) (X : aW) (dr wk : Int32) (sc : List Int64 × List Int64) : ia_H := pM h a (mz M d X dr wk sc)
def mlen (k : Nat) : Nat := [700, 16, 12, 12, 12, 16, 16, 16, 12, 12, 20, 20, 20, 20, 6, 6, 128, 128, 23, 23, 23, 138, 138, 184, 184, 184, 184, 230, 230, 230, 230, 3, 6, 6, 24, 24, 24, 24, 24].getD k 0
def lnM (M : aG) : Prop := ∀ k, k < 39 → (M.2.1 k).length = mlen k
def lnX (X : aW) : Prop := (∀ k, k < 2 → (X.2 k).length = 6) ∧ (∀ k, 2 ≤ k → k < 6 → (X.2 k).length = 8) ∧ ∀ k, 6 ≤ k → k < 12 → (X.2 k).length = 10
def wfY (M : aG) (d : Nat) (X : aW) : Prop := lnM M ∧ d < 23 ∧ lnX X
theorem wfW.lnX {X : aW} {t r : Nat} (h : wfW X t r) : lnX X := h.2.2.2.2
theorem mz_A {M : aG} {d : Nat} {X : aW} {dr wk : Int32} {sc : List Int64 × List Int64} {k : Nat} {l : List Int32} (h1 : 21 ≤ k) (h2 : k < 31) : gA (mz M d X dr wk sc) k (blk (M.2.1 k) (wdM k * d) l) = mz M d (sA X (kwM k) l) dr wk sc := by
  unfold mz gA
  refine Prod.ext rfl (Prod.ext ?_ rfl)
  funext j
  show (if j = k then blk (M.2.1 k) (wdM k * d) l else mwR M d X j) = mwR M d (sA X (kwM k) l) j
  unfold mwR
  by_cases hj : j = k
  · subst hj
    rw [if_pos rfl, if_neg (by omega), if_neg (by omega), if_pos h2, sA_2]
  · rw [if_neg hj]
    by_cases c1 : j < 18
    · rw [if_pos c1, if_pos c1]
    · by_cases c2 : j < 21
      · rw [if_neg c1, if_neg c1, if_pos c2, if_pos c2, sA_1]
      · by_cases c3 : j < 31
        · rw [if_neg c1, if_neg c1, if_neg c2, if_neg c2, if_pos c3, if_pos c3, sA_n]
          unfold kwM
          split <;> split <;> omega
        · rw [if_neg c1, if_neg c1, if_neg c2, if_neg c2, if_neg c3, if_neg c3]
theorem mz_I {M : aG} {d : Nat} {X : aW} {dr wk : Int32} {sc : List Int64 × List Int64} {k : Nat} {v : Int32} (h2 : k < 3) : gA (mz M d X dr wk sc) (18 + k) ((M.2.1 (18 + k)).set d v) = mz M d (sI X k v) dr wk sc := by
  unfold mz gA
  refine Prod.ext rfl (Prod.ext ?_ rfl)
  funext j
  show (if j = 18 + k then (M.2.1 (18 + k)).set d v else mwR M d X j) = mwR M d (sI X k v) j
  unfold mwR
  by_cases hj : j = 18 + k
  · subst hj
    rw [if_pos rfl, if_neg (by omega), if_pos (by omega), Nat.add_sub_cancel_left, sI_1]
  · rw [if_neg hj]
    by_cases c1 : j < 18
    · rw [if_pos c1, if_pos c1]
    · by_cases c2 : j < 21
      · rw [if_neg c1, if_neg c1, if_pos c2, if_pos c2, sI_n (by omega)]
      · by_cases c3 : j < 31
        · rw [if_neg c1, if_neg c1, if_neg c2, if_neg c2, if_pos c3, if_pos c3, sI_2]
        · rw [if_neg c1, if_neg c1, if_neg c2, if_neg c2, if_neg c3, if_neg c3]
section MY
variable {h : ia_H} {a : Nat} {M : aG} {d : Nat} {X : aW} {dr wk : Int32} {sc : List Int64 × List Int64}
theorem my_clsb : ∀ A B : Option ia_R, (if ia_cls (my h a M d X dr wk sc) a = 10 then A else B) = A := pM_clsb
theorem my_Ib : (∀ f : Int32 → Option ia_R, (ia_getI (my h a M d X dr wk sc) a 10 0).bind f = f (M.1 0)) ∧ (∀ f : Int32 → Option ia_R, (ia_getI (my h a M d X dr wk sc) a 10 2).bind f = f (M.1 1)) ∧ (∀ f : Int32 → Option ia_R, (ia_getI (my h a M d X dr wk sc) a 10 20).bind f = f (M.1 2)) ∧ (∀ f : Int32 → Option ia_R, (ia_getI (my h a M d X dr wk sc) a 10 21).bind f = f (M.1 3)) ∧ (∀ f : Int32 → Option ia_R, (ia_getI (my h a M d X dr wk sc) a 10 22).bind f = f (M.1 4)) ∧ (∀ f : Int32 → Option ia_R, (ia_getI (my h a M d X dr wk sc) a 10 23).bind f = f (M.1 5)) ∧ (∀ f : Int32 → Option ia_R, (ia_getI (my h a M d X dr wk sc) a 10 24).bind f = f (M.1 6)) ∧ (∀ f : Int32 → Option ia_R, (ia_getI (my h a M d X dr wk sc) a 10 25).bind f = f (M.1 7)) ∧ (∀ f : Int32 → Option ia_R, (ia_getI (my h a M d X dr wk sc) a 10 26).bind f = f (M.1 8)) ∧ (∀ f : Int32 → Option ia_R, (ia_getI (my h a M d X dr wk sc) a 10 27).bind f = f (M.1 9)) ∧ (∀ f : Int32 → Option ia_R, (ia_getI (my h a M d X dr wk sc) a 10 28).bind f = f (M.1 10)) ∧ (∀ f : Int32 → Option ia_R, (ia_getI (my h a M d X dr wk sc) a 10 29).bind f = f (M.1 11)) ∧ (∀ f : Int32 → Option ia_R, (ia_getI (my h a M d X dr wk sc) a 10 30).bind f = f (M.1 12)) ∧ (∀ f : Int32 → Option ia_R, (ia_getI (my h a M d X dr wk sc) a 10 31).bind f = f (M.1 13)) ∧ (∀ f : Int32 → Option ia_R, (ia_getI (my h a M d X dr wk sc) a 10 32).bind f = f (M.1 14)) ∧ (∀ f : Int32 → Option ia_R, (ia_getI (my h a M d X dr wk sc) a 10 35).bind f = f (wk)) ∧ (∀ f : Int32 → Option ia_R, (ia_getI (my h a M d X dr wk sc) a 10 49).bind f = f (M.1 16)) ∧ (∀ f : Int32 → Option ia_R, (ia_getI (my h a M d X dr wk sc) a 10 50).bind f = f (M.1 17)) ∧ (∀ f : Int32 → Option ia_R, (ia_getI (my h a M d X dr wk sc) a 10 51).bind f = f (M.1 18)) ∧ (∀ f : Int32 → Option ia_R, (ia_getI (my h a M d X dr wk sc) a 10 52).bind f = f (M.1 19)) ∧ (∀ f : Int32 → Option ia_R, (ia_getI (my h a M d X dr wk sc) a 10 53).bind f = f (M.1 20)) ∧ (∀ f : Int32 → Option ia_R, (ia_getI (my h a M d X dr wk sc) a 10 54).bind f = f (M.1 21)) ∧ (∀ f : Int32 → Option ia_R, (ia_getI (my h a M d X dr wk sc) a 10 55).bind f = f (dr)) ∧ (∀ f : Int32 → Option ia_R, (ia_getI (my h a M d X dr wk sc) a 10 57).bind f = f (M.1 23)) ∧ (∀ f : Int32 → Option ia_R, (ia_getI (my h a M d X dr wk sc) a 10 58).bind f = f (M.1 24)) ∧ (∀ f : Int32 → Option ia_R, (ia_getI (my h a M d X dr wk sc) a 10 59).bind f = f (M.1 25)) ∧ (∀ f : Int32 → Option ia_R, (ia_getI (my h a M d X dr wk sc) a 10 62).bind f = f (M.1 26)) ∧ (∀ f : Int32 → Option ia_R, (ia_getI (my h a M d X dr wk sc) a 10 63).bind f = f (M.1 27)) :=
  pM_Ib
theorem my_Rb : (∀ f : Nat → Option ia_R, (ia_getR (my h a M d X dr wk sc) a 10 1).bind f = f (a + 1)) ∧ (∀ f : Nat → Option ia_R, (ia_getR (my h a M d X dr wk sc) a 10 3).bind f = f (a + 2)) ∧ (∀ f : Nat → Option ia_R, (ia_getR (my h a M d X dr wk sc) a 10 4).bind f = f (a + 3)) ∧ (∀ f : Nat → Option ia_R, (ia_getR (my h a M d X dr wk sc) a 10 5).bind f = f (a + 4)) ∧ (∀ f : Nat → Option ia_R, (ia_getR (my h a M d X dr wk sc) a 10 6).bind f = f (a + 5)) ∧ (∀ f : Nat → Option ia_R, (ia_getR (my h a M d X dr wk sc) a 10 7).bind f = f (a + 6)) ∧ (∀ f : Nat → Option ia_R, (ia_getR (my h a M d X dr wk sc) a 10 8).bind f = f (a + 7)) ∧ (∀ f : Nat → Option ia_R, (ia_getR (my h a M d X dr wk sc) a 10 9).bind f = f (a + 8)) ∧ (∀ f : Nat → Option ia_R, (ia_getR (my h a M d X dr wk sc) a 10 10).bind f = f (a + 9)) ∧ (∀ f : Nat → Option ia_R, (ia_getR (my h a M d X dr wk sc) a 10 11).bind f = f (a + 10)) ∧ (∀ f : Nat → Option ia_R, (ia_getR (my h a M d X dr wk sc) a 10 12).bind f = f (a + 11)) ∧ (∀ f : Nat → Option ia_R, (ia_getR (my h a M d X dr wk sc) a 10 13).bind f = f (a + 12)) ∧ (∀ f : Nat → Option ia_R, (ia_getR (my h a M d X dr wk sc) a 10 14).bind f = f (a + 13)) ∧ (∀ f : Nat → Option ia_R, (ia_getR (my h a M d X dr wk sc) a 10 15).bind f = f (a + 14)) ∧ (∀ f : Nat → Option ia_R, (ia_getR (my h a M d X dr wk sc) a 10 16).bind f = f (a + 15)) ∧ (∀ f : Nat → Option ia_R, (ia_getR (my h a M d X dr wk sc) a 10 17).bind f = f (a + 16)) ∧ (∀ f : Nat → Option ia_R, (ia_getR (my h a M d X dr wk sc) a 10 18).bind f = f (a + 17)) ∧ (∀ f : Nat → Option ia_R, (ia_getR (my h a M d X dr wk sc) a 10 19).bind f = f (a + 18)) ∧ (∀ f : Nat → Option ia_R, (ia_getR (my h a M d X dr wk sc) a 10 33).bind f = f (a + 19)) ∧ (∀ f : Nat → Option ia_R, (ia_getR (my h a M d X dr wk sc) a 10 34).bind f = f (a + 20)) ∧ (∀ f : Nat → Option ia_R, (ia_getR (my h a M d X dr wk sc) a 10 36).bind f = f (a + 21)) ∧ (∀ f : Nat → Option ia_R, (ia_getR (my h a M d X dr wk sc) a 10 37).bind f = f (a + 22)) ∧ (∀ f : Nat → Option ia_R, (ia_getR (my h a M d X dr wk sc) a 10 38).bind f = f (a + 23)) ∧ (∀ f : Nat → Option ia_R, (ia_getR (my h a M d X dr wk sc) a 10 39).bind f = f (a + 24)) ∧ (∀ f : Nat → Option ia_R, (ia_getR (my h a M d X dr wk sc) a 10 40).bind f = f (a + 25)) ∧ (∀ f : Nat → Option ia_R, (ia_getR (my h a M d X dr wk sc) a 10 41).bind f = f (a + 26)) ∧ (∀ f : Nat → Option ia_R, (ia_getR (my h a M d X dr wk sc) a 10 42).bind f = f (a + 27)) ∧ (∀ f : Nat → Option ia_R, (ia_getR (my h a M d X dr wk sc) a 10 43).bind f = f (a + 28)) ∧ (∀ f : Nat → Option ia_R, (ia_getR (my h a M d X dr wk sc) a 10 44).bind f = f (a + 29)) ∧ (∀ f : Nat → Option ia_R, (ia_getR (my h a M d X dr wk sc) a 10 45).bind f = f (a + 30)) ∧ (∀ f : Nat → Option ia_R, (ia_getR (my h a M d X dr wk sc) a 10 46).bind f = f (a + 31)) ∧ (∀ f : Nat → Option ia_R, (ia_getR (my h a M d X dr wk sc) a 10 47).bind f = f (a + 32)) ∧ (∀ f : Nat → Option ia_R, (ia_getR (my h a M d X dr wk sc) a 10 48).bind f = f (a + 33)) ∧ (∀ f : Nat → Option ia_R, (ia_getR (my h a M d X dr wk sc) a 10 56).bind f = f (a + 34)) ∧ (∀ f : Nat → Option ia_R, (ia_getR (my h a M d X dr wk sc) a 10 60).bind f = f (a + 35)) ∧ (∀ f : Nat → Option ia_R, (ia_getR (my h a M d X dr wk sc) a 10 61).bind f = f (a + 36)) ∧ (∀ f : Nat → Option ia_R, (ia_getR (my h a M d X dr wk sc) a 10 64).bind f = f (a + 37)) ∧ (∀ f : Nat → Option ia_R, (ia_getR (my h a M d X dr wk sc) a 10 65).bind f = f (a + 38)) ∧ (∀ f : Nat → Option ia_R, (ia_getR (my h a M d X dr wk sc) a 10 66).bind f = f (a + 39)) ∧ (∀ f : Nat → Option ia_R, (ia_getR (my h a M d X dr wk sc) a 10 67).bind f = f (a + 40)) ∧ (∀ f : Nat → Option ia_R, (ia_getR (my h a M d X dr wk sc) a 10 68).bind f = f (a + 41)) :=
  pM_Rb
theorem my_ldb : (∀ (i : Int32) (f : Int32 → Option ia_R), (ia_ald (my h a M d X dr wk sc) (a + 1) 0 i).bind f = (rd (M.2.1 0) i).bind f) ∧ (∀ (i : Int32) (f : Int32 → Option ia_R), (ia_ald (my h a M d X dr wk sc) (a + 2) 0 i).bind f = (rd (M.2.1 1) i).bind f) ∧ (∀ (i : Int32) (f : Int32 → Option ia_R), (ia_ald (my h a M d X dr wk sc) (a + 3) 0 i).bind f = (rd (M.2.1 2) i).bind f) ∧ (∀ (i : Int32) (f : Int32 → Option ia_R), (ia_ald (my h a M d X dr wk sc) (a + 4) 0 i).bind f = (rd (M.2.1 3) i).bind f) ∧ (∀ (i : Int32) (f : Int32 → Option ia_R), (ia_ald (my h a M d X dr wk sc) (a + 5) 0 i).bind f = (rd (M.2.1 4) i).bind f) ∧ (∀ (i : Int32) (f : Int32 → Option ia_R), (ia_ald (my h a M d X dr wk sc) (a + 6) 0 i).bind f = (rd (M.2.1 5) i).bind f) ∧ (∀ (i : Int32) (f : Int32 → Option ia_R), (ia_ald (my h a M d X dr wk sc) (a + 7) 0 i).bind f = (rd (M.2.1 6) i).bind f) ∧ (∀ (i : Int32) (f : Int32 → Option ia_R), (ia_ald (my h a M d X dr wk sc) (a + 8) 0 i).bind f = (rd (M.2.1 7) i).bind f) ∧ (∀ (i : Int32) (f : Int32 → Option ia_R), (ia_ald (my h a M d X dr wk sc) (a + 9) 0 i).bind f = (rd (M.2.1 8) i).bind f) ∧ (∀ (i : Int32) (f : Int32 → Option ia_R), (ia_ald (my h a M d X dr wk sc) (a + 10) 0 i).bind f = (rd (M.2.1 9) i).bind f) ∧ (∀ (i : Int32) (f : Int32 → Option ia_R), (ia_ald (my h a M d X dr wk sc) (a + 11) 0 i).bind f = (rd (M.2.1 10) i).bind f) ∧ (∀ (i : Int32) (f : Int32 → Option ia_R), (ia_ald (my h a M d X dr wk sc) (a + 12) 0 i).bind f = (rd (M.2.1 11) i).bind f) ∧ (∀ (i : Int32) (f : Int32 → Option ia_R), (ia_ald (my h a M d X dr wk sc) (a + 13) 0 i).bind f = (rd (M.2.1 12) i).bind f) ∧ (∀ (i : Int32) (f : Int32 → Option ia_R), (ia_ald (my h a M d X dr wk sc) (a + 14) 0 i).bind f = (rd (M.2.1 13) i).bind f) ∧ (∀ (i : Int32) (f : Int32 → Option ia_R), (ia_ald (my h a M d X dr wk sc) (a + 15) 0 i).bind f = (rd (M.2.1 14) i).bind f) ∧ (∀ (i : Int32) (f : Int32 → Option ia_R), (ia_ald (my h a M d X dr wk sc) (a + 16) 0 i).bind f = (rd (M.2.1 15) i).bind f) ∧ (∀ (i : Int32) (f : Int32 → Option ia_R), (ia_ald (my h a M d X dr wk sc) (a + 17) 0 i).bind f = (rd (M.2.1 16) i).bind f) ∧ (∀ (i : Int32) (f : Int32 → Option ia_R), (ia_ald (my h a M d X dr wk sc) (a + 18) 0 i).bind f = (rd (M.2.1 17) i).bind f) ∧ (∀ (i : Int32) (f : Int32 → Option ia_R), (ia_ald (my h a M d X dr wk sc) (a + 34) 0 i).bind f = (rd (M.2.1 31) i).bind f) ∧ (∀ (i : Int32) (f : Int32 → Option ia_R), (ia_ald (my h a M d X dr wk sc) (a + 35) 0 i).bind f = (rd (M.2.1 32) i).bind f) ∧ (∀ (i : Int32) (f : Int32 → Option ia_R), (ia_ald (my h a M d X dr wk sc) (a + 36) 0 i).bind f = (rd (M.2.1 33) i).bind f) ∧ (∀ (i : Int32) (f : Int32 → Option ia_R), (ia_ald (my h a M d X dr wk sc) (a + 37) 0 i).bind f = (rd (M.2.1 34) i).bind f) ∧ (∀ (i : Int32) (f : Int32 → Option ia_R), (ia_ald (my h a M d X dr wk sc) (a + 38) 0 i).bind f = (rd (M.2.1 35) i).bind f) ∧ (∀ (i : Int32) (f : Int32 → Option ia_R), (ia_ald (my h a M d X dr wk sc) (a + 39) 2 i).bind f = (rd (M.2.1 36) i).bind f) ∧ (∀ (i : Int32) (f : Int32 → Option ia_R), (ia_ald (my h a M d X dr wk sc) (a + 40) 0 i).bind f = (rd (M.2.1 37) i).bind f) ∧ (∀ (i : Int32) (f : Int32 → Option ia_R), (ia_ald (my h a M d X dr wk sc) (a + 41) 2 i).bind f = (rd (M.2.1 38) i).bind f) :=
  ⟨fun i f => bse (ald_of (put_in 1 (by decide)) i) f, fun i f => bse (ald_of (put_in 2 (by decide)) i) f, fun i f => bse (ald_of (put_in 3 (by decide)) i) f, fun i f => bse (ald_of (put_in 4 (by decide)) i) f, fun i f => bse (ald_of (put_in 5 (by decide)) i) f, fun i f => bse (ald_of (put_in 6 (by decide)) i) f, fun i f => bse (ald_of (put_in 7 (by decide)) i) f, fun i f => bse (ald_of (put_in 8 (by decide)) i) f, fun i f => bse (ald_of (put_in 9 (by decide)) i) f, fun i f => bse (ald_of (put_in 10 (by decide)) i) f, fun i f => bse (ald_of (put_in 11 (by decide)) i) f, fun i f => bse (ald_of (put_in 12 (by decide)) i) f, fun i f => bse (ald_of (put_in 13 (by decide)) i) f, fun i f => bse (ald_of (put_in 14 (by decide)) i) f, fun i f => bse (ald_of (put_in 15 (by decide)) i) f, fun i f => bse (ald_of (put_in 16 (by decide)) i) f, fun i f => bse (ald_of (put_in 17 (by decide)) i) f, fun i f => bse (ald_of (put_in 18 (by decide)) i) f, fun i f => bse (ald_of (put_in 34 (by decide)) i) f, fun i f => bse (ald_of (put_in 35 (by decide)) i) f, fun i f => bse (ald_of (put_in 36 (by decide)) i) f, fun i f => bse (ald_of (put_in 37 (by decide)) i) f, fun i f => bse (ald_of (put_in 38 (by decide)) i) f, fun i f => bse (ald_of (put_in 39 (by decide)) i) f, fun i f => bse (ald_of (put_in 40 (by decide)) i) f, fun i f => bse (ald_of (put_in 41 (by decide)) i) f⟩
theorem my_llb : (∀ (i : Int32) (f : Int64 → Option ia_R), (ia_lald (my h a M d X dr wk sc) (a + 19) i).bind f = (rd sc.1 i).bind f) ∧ (∀ (i : Int32) (f : Int64 → Option ia_R), (ia_lald (my h a M d X dr wk sc) (a + 20) i).bind f = (rd sc.2 i).bind f) := pM_llb
theorem mz_n {l : List Int64} : gB (mz M d X dr wk sc) 0 l = mz M d X dr wk (l, sc.2) := by
  unfold mz gB
  refine Prod.ext rfl (Prod.ext rfl (Prod.ext rfl (Prod.ext ?_ rfl)))
  funext j
  show (if j = 0 then l else if j = 1 then sc.2 else if j = 0 then sc.1 else M.2.2.2.1 j) = if j = 1 then sc.2 else if j = 0 then l else M.2.2.2.1 j
  by_cases h0 : j = 0
  · subst h0; rfl
  · rw [if_neg h0, if_neg h0, if_neg h0]
theorem mz_v {l : List Int64} : gB (mz M d X dr wk sc) 1 l = mz M d X dr wk (sc.1, l) := Prod.ext rfl (Prod.ext rfl (Prod.ext rfl (Prod.ext up_u rfl)))
theorem mz_w {v : Int32} : gI (mz M d X dr wk sc) 15 v = mz M d X dr v sc := by
  unfold mz gI
  refine Prod.ext ?_ rfl
  funext j
  show (if j = 15 then v else if j = 22 then dr else if j = 15 then wk else M.1 j) = if j = 22 then dr else if j = 15 then v else M.1 j
  by_cases h0 : j = 15
  · subst h0; rfl
  · rw [if_neg h0, if_neg h0, if_neg h0]
theorem mz_d {v : Int32} : gI (mz M d X dr wk sc) 22 v = mz M d X v wk sc := Prod.ext up_u rfl
theorem my_lsb : (∀ (i : Int32) (x : Int64) (f : ia_H → Option ia_R), (ia_last (my h a M d X dr wk sc) (a + 19) i x).bind f = (wr sc.1 i x).bind fun l => f (my h a M d X dr wk (l, sc.2))) ∧ (∀ (i : Int32) (x : Int64) (f : ia_H → Option ia_R), (ia_last (my h a M d X dr wk sc) (a + 20) i x).bind f = (wr sc.2 i x).bind fun l => f (my h a M d X dr wk (sc.1, l))) := by
  have this := pM_lsb (h := h) (a := a) (X := mz M d X dr wk sc)
  simp only [mz_n, mz_v] at this
  exact this
theorem my_pfw : ∀ (v : Int32) (f : ia_H → Option ia_R), (ia_putf (my h a M d X dr wk sc) a 10 35 (.int v)).bind f = f (my h a M d X dr v sc) := fun v f => by
  have this : ia_putf (my h a M d X dr wk sc) a 10 35 (.int v) = some (pM h a (gI (mz M d X dr wk sc) 15 v)) := (pM_pf h a (mz M d X dr wk sc)).2.2.2.2.2.2.2.2.2.2.2.2.2.2.2.1 v
  rw [mz_w] at this
  exact bs this f
theorem my_pfd : ∀ (v : Int32) (f : ia_H → Option ia_R), (ia_putf (my h a M d X dr wk sc) a 10 55 (.int v)).bind f = f (my h a M d X v wk sc) := fun v f => by
  have this : ia_putf (my h a M d X dr wk sc) a 10 55 (.int v) = some (pM h a (gI (mz M d X dr wk sc) 22 v)) := (pM_pf h a (mz M d X dr wk sc)).2.2.2.2.2.2.2.2.2.2.2.2.2.2.2.2.2.2.2.2.2.2.1 v
  rw [mz_d] at this
  exact bs this f
theorem my_r18 (hy : wfY M d X) : ∀ f : Int32 → Option ia_R, (ia_ald (my h a M d X dr wk sc) (a + 21) 0 (nI d)).bind f = f (X.1 0) := bs (by
  have e : ia_ald (my h a M d X dr wk sc) (a + 21) 0 (nI d) = rd ((M.2.1 18).set d (X.1 0)) (nI d) := ald_of (put_in 21 (by decide)) _
  have hl : (M.2.1 18).length = 23 := hy.1 18 (by decide)
  have hd := hy.2.1
  rw [e, rdN (by rw [List.length_set]; omega) (by rw [List.length_set]; omega), ia_set_getD (by omega), if_pos rfl])
theorem my_w18 (hy : wfY M d X) : ∀ (v : Int32) (f : ia_H → Option ia_R), (ia_ast (my h a M d X dr wk sc) (a + 21) 0 (nI d) v).bind f = f (my h a M d (sI X 0 v) dr wk sc) := fun v => bs (by
  have e : ia_ast (my h a M d X dr wk sc) (a + 21) 0 (nI d) v = (wr ((M.2.1 18).set d (X.1 0)) (nI d) v).map _ := ast_of (show (my h a M d X dr wk sc).2.2 (a + 21) = .inl (0, (M.2.1 18).set d (X.1 0)) from put_in 21 (by decide)) _ _
  have hl : (M.2.1 18).length = 23 := hy.1 18 (by decide)
  have hd := hy.2.1
  rw [e, wr_nI (by omega) (by rw [List.length_set]; omega), List.set_set, Option.map_some]
  exact congrArg some ((pM_a21 h a (mz M d X dr wk sc) _).trans (congrArg (pM h a) (mz_I (k := 0) (by decide)))))
theorem my_r19 (hy : wfY M d X) : ∀ f : Int32 → Option ia_R, (ia_ald (my h a M d X dr wk sc) (a + 22) 0 (nI d)).bind f = f (X.1 1) := bs (by
  have e : ia_ald (my h a M d X dr wk sc) (a + 22) 0 (nI d) = rd ((M.2.1 19).set d (X.1 1)) (nI d) := ald_of (put_in 22 (by decide)) _
  have hl : (M.2.1 19).length = 23 := hy.1 19 (by decide)
  have hd := hy.2.1
  rw [e, rdN (by rw [List.length_set]; omega) (by rw [List.length_set]; omega), ia_set_getD (by omega), if_pos rfl])
theorem my_w19 (hy : wfY M d X) : ∀ (v : Int32) (f : ia_H → Option ia_R), (ia_ast (my h a M d X dr wk sc) (a + 22) 0 (nI d) v).bind f = f (my h a M d (sI X 1 v) dr wk sc) := fun v => bs (by
  have e : ia_ast (my h a M d X dr wk sc) (a + 22) 0 (nI d) v = (wr ((M.2.1 19).set d (X.1 1)) (nI d) v).map _ := ast_of (show (my h a M d X dr wk sc).2.2 (a + 22) = .inl (0, (M.2.1 19).set d (X.1 1)) from put_in 22 (by decide)) _ _
  have hl : (M.2.1 19).length = 23 := hy.1 19 (by decide)
  have hd := hy.2.1
  rw [e, wr_nI (by omega) (by rw [List.length_set]; omega), List.set_set, Option.map_some]
  exact congrArg some ((pM_a22 h a (mz M d X dr wk sc) _).trans (congrArg (pM h a) (mz_I (k := 1) (by decide)))))
theorem my_r20 (hy : wfY M d X) : ∀ f : Int32 → Option ia_R, (ia_ald (my h a M d X dr wk sc) (a + 23) 0 (nI d)).bind f = f (X.1 2) := bs (by
  have e : ia_ald (my h a M d X dr wk sc) (a + 23) 0 (nI d) = rd ((M.2.1 20).set d (X.1 2)) (nI d) := ald_of (put_in 23 (by decide)) _
  have hl : (M.2.1 20).length = 23 := hy.1 20 (by decide)
  have hd := hy.2.1
  rw [e, rdN (by rw [List.length_set]; omega) (by rw [List.length_set]; omega), ia_set_getD (by omega), if_pos rfl])
theorem my_w20 (hy : wfY M d X) : ∀ (v : Int32) (f : ia_H → Option ia_R), (ia_ast (my h a M d X dr wk sc) (a + 23) 0 (nI d) v).bind f = f (my h a M d (sI X 2 v) dr wk sc) := fun v => bs (by
  have e : ia_ast (my h a M d X dr wk sc) (a + 23) 0 (nI d) v = (wr ((M.2.1 20).set d (X.1 2)) (nI d) v).map _ := ast_of (show (my h a M d X dr wk sc).2.2 (a + 23) = .inl (0, (M.2.1 20).set d (X.1 2)) from put_in 23 (by decide)) _ _
  have hl : (M.2.1 20).length = 23 := hy.1 20 (by decide)
  have hd := hy.2.1
  rw [e, wr_nI (by omega) (by rw [List.length_set]; omega), List.set_set, Option.map_some]
  exact congrArg some ((pM_a23 h a (mz M d X dr wk sc) _).trans (congrArg (pM h a) (mz_I (k := 2) (by decide)))))
theorem my_r21 (hy : wfY M d X) {c : Nat} (hc : c < 6) : ∀ f : Int32 → Option ia_R, (ia_ald (my h a M d X dr wk sc) (a + 24) 0 ((6 : Int32) * nI d + nI c)).bind f = f (fA X 0 c) := bs (by
  have e : ia_ald (my h a M d X dr wk sc) (a + 24) 0 ((6 : Int32) * nI d + nI c) = rd (blk (M.2.1 21) (6 * d) (X.2 0)) ((6 : Int32) * nI d + nI c) := ald_of (put_in 24 (by decide)) _
  have hl : (M.2.1 21).length = 138 := hy.1 21 (by decide)
  have hx : (X.2 0).length = 6 := hy.2.2.1 0 (by decide)
  have hd := hy.2.1
  rw [e, rd_blk (w := 6) (wI := 6) rfl (by omega) (by omega) (by omega)]
  rfl)
theorem my_w21 (hy : wfY M d X) {c : Nat} (hc : c < 6) : ∀ (v : Int32) (f : ia_H → Option ia_R), (ia_ast (my h a M d X dr wk sc) (a + 24) 0 ((6 : Int32) * nI d + nI c) v).bind f = f (my h a M d (sA X 0 ((X.2 0).set c v)) dr wk sc) := fun v => bs (by
  have e : ia_ast (my h a M d X dr wk sc) (a + 24) 0 ((6 : Int32) * nI d + nI c) v = (wr (blk (M.2.1 21) (6 * d) (X.2 0)) ((6 : Int32) * nI d + nI c) v).map _ := ast_of (show (my h a M d X dr wk sc).2.2 (a + 24) = .inl (0, blk (M.2.1 21) (6 * d) (X.2 0)) from put_in 24 (by decide)) _ _
  have hl : (M.2.1 21).length = 138 := hy.1 21 (by decide)
  have hx : (X.2 0).length = 6 := hy.2.2.1 0 (by decide)
  have hd := hy.2.1
  rw [e, wr_blk (w := 6) (wI := 6) rfl (by omega) (by omega) (by omega), Option.map_some]
  exact congrArg some ((pM_a24 h a (mz M d X dr wk sc) _).trans (congrArg (pM h a) (mz_A (k := 21) (by decide) (by decide)))))
theorem my_r22 (hy : wfY M d X) {c : Nat} (hc : c < 6) : ∀ f : Int32 → Option ia_R, (ia_ald (my h a M d X dr wk sc) (a + 25) 0 ((6 : Int32) * nI d + nI c)).bind f = f (fA X 1 c) := bs (by
  have e : ia_ald (my h a M d X dr wk sc) (a + 25) 0 ((6 : Int32) * nI d + nI c) = rd (blk (M.2.1 22) (6 * d) (X.2 1)) ((6 : Int32) * nI d + nI c) := ald_of (put_in 25 (by decide)) _
  have hl : (M.2.1 22).length = 138 := hy.1 22 (by decide)
  have hx : (X.2 1).length = 6 := hy.2.2.1 1 (by decide)
  have hd := hy.2.1
  rw [e, rd_blk (w := 6) (wI := 6) rfl (by omega) (by omega) (by omega)]
  rfl)
theorem my_w22 (hy : wfY M d X) {c : Nat} (hc : c < 6) : ∀ (v : Int32) (f : ia_H → Option ia_R), (ia_ast (my h a M d X dr wk sc) (a + 25) 0 ((6 : Int32) * nI d + nI c) v).bind f = f (my h a M d (sA X 1 ((X.2 1).set c v)) dr wk sc) := fun v => bs (by
  have e : ia_ast (my h a M d X dr wk sc) (a + 25) 0 ((6 : Int32) * nI d + nI c) v = (wr (blk (M.2.1 22) (6 * d) (X.2 1)) ((6 : Int32) * nI d + nI c) v).map _ := ast_of (show (my h a M d X dr wk sc).2.2 (a + 25) = .inl (0, blk (M.2.1 22) (6 * d) (X.2 1)) from put_in 25 (by decide)) _ _
  have hl : (M.2.1 22).length = 138 := hy.1 22 (by decide)
  have hx : (X.2 1).length = 6 := hy.2.2.1 1 (by decide)
  have hd := hy.2.1
  rw [e, wr_blk (w := 6) (wI := 6) rfl (by omega) (by omega) (by omega), Option.map_some]
  exact congrArg some ((pM_a25 h a (mz M d X dr wk sc) _).trans (congrArg (pM h a) (mz_A (k := 22) (by decide) (by decide)))))
theorem my_r23 (hy : wfY M d X) {c : Nat} (hc : c < 8) : ∀ f : Int32 → Option ia_R, (ia_ald (my h a M d X dr wk sc) (a + 26) 0 ((8 : Int32) * nI d + nI c)).bind f = f (fA X 2 c) := bs (by
  have e : ia_ald (my h a M d X dr wk sc) (a + 26) 0 ((8 : Int32) * nI d + nI c) = rd (blk (M.2.1 23) (8 * d) (X.2 2)) ((8 : Int32) * nI d + nI c) := ald_of (put_in 26 (by decide)) _
  have hl : (M.2.1 23).length = 184 := hy.1 23 (by decide)
  have hx : (X.2 2).length = 8 := hy.2.2.2.1 2 (by decide) (by decide)
  have hd := hy.2.1
  rw [e, rd_blk (w := 8) (wI := 8) rfl (by omega) (by omega) (by omega)]
  rfl)
theorem my_w23 (hy : wfY M d X) {c : Nat} (hc : c < 8) : ∀ (v : Int32) (f : ia_H → Option ia_R), (ia_ast (my h a M d X dr wk sc) (a + 26) 0 ((8 : Int32) * nI d + nI c) v).bind f = f (my h a M d (sA X 2 ((X.2 2).set c v)) dr wk sc) := fun v => bs (by
  have e : ia_ast (my h a M d X dr wk sc) (a + 26) 0 ((8 : Int32) * nI d + nI c) v = (wr (blk (M.2.1 23) (8 * d) (X.2 2)) ((8 : Int32) * nI d + nI c) v).map _ := ast_of (show (my h a M d X dr wk sc).2.2 (a + 26) = .inl (0, blk (M.2.1 23) (8 * d) (X.2 2)) from put_in 26 (by decide)) _ _
  have hl : (M.2.1 23).length = 184 := hy.1 23 (by decide)
  have hx : (X.2 2).length = 8 := hy.2.2.2.1 2 (by decide) (by decide)
  have hd := hy.2.1
  rw [e, wr_blk (w := 8) (wI := 8) rfl (by omega) (by omega) (by omega), Option.map_some]
  exact congrArg some ((pM_a26 h a (mz M d X dr wk sc) _).trans (congrArg (pM h a) (mz_A (k := 23) (by decide) (by decide)))))
theorem my_r24 (hy : wfY M d X) {c : Nat} (hc : c < 8) : ∀ f : Int32 → Option ia_R, (ia_ald (my h a M d X dr wk sc) (a + 27) 0 ((8 : Int32) * nI d + nI c)).bind f = f (fA X 3 c) := bs (by
  have e : ia_ald (my h a M d X dr wk sc) (a + 27) 0 ((8 : Int32) * nI d + nI c) = rd (blk (M.2.1 24) (8 * d) (X.2 3)) ((8 : Int32) * nI d + nI c) := ald_of (put_in 27 (by decide)) _
  have hl : (M.2.1 24).length = 184 := hy.1 24 (by decide)
  have hx : (X.2 3).length = 8 := hy.2.2.2.1 3 (by decide) (by decide)
  have hd := hy.2.1
  rw [e, rd_blk (w := 8) (wI := 8) rfl (by omega) (by omega) (by omega)]
  rfl)
theorem my_w24 (hy : wfY M d X) {c : Nat} (hc : c < 8) : ∀ (v : Int32) (f : ia_H → Option ia_R), (ia_ast (my h a M d X dr wk sc) (a + 27) 0 ((8 : Int32) * nI d + nI c) v).bind f = f (my h a M d (sA X 3 ((X.2 3).set c v)) dr wk sc) := fun v => bs (by
  have e : ia_ast (my h a M d X dr wk sc) (a + 27) 0 ((8 : Int32) * nI d + nI c) v = (wr (blk (M.2.1 24) (8 * d) (X.2 3)) ((8 : Int32) * nI d + nI c) v).map _ := ast_of (show (my h a M d X dr wk sc).2.2 (a + 27) = .inl (0, blk (M.2.1 24) (8 * d) (X.2 3)) from put_in 27 (by decide)) _ _
  have hl : (M.2.1 24).length = 184 := hy.1 24 (by decide)
  have hx : (X.2 3).length = 8 := hy.2.2.2.1 3 (by decide) (by decide)
  have hd := hy.2.1
  rw [e, wr_blk (w := 8) (wI := 8) rfl (by omega) (by omega) (by omega), Option.map_some]
  exact congrArg some ((pM_a27 h a (mz M d X dr wk sc) _).trans (congrArg (pM h a) (mz_A (k := 24) (by decide) (by decide)))))
theorem my_r25 (hy : wfY M d X) {c : Nat} (hc : c < 8) : ∀ f : Int32 → Option ia_R, (ia_ald (my h a M d X dr wk sc) (a + 28) 0 ((8 : Int32) * nI d + nI c)).bind f = f (fA X 4 c) := bs (by
  have e : ia_ald (my h a M d X dr wk sc) (a + 28) 0 ((8 : Int32) * nI d + nI c) = rd (blk (M.2.1 25) (8 * d) (X.2 4)) ((8 : Int32) * nI d + nI c) := ald_of (put_in 28 (by decide)) _
  have hl : (M.2.1 25).length = 184 := hy.1 25 (by decide)
  have hx : (X.2 4).length = 8 := hy.2.2.2.1 4 (by decide) (by decide)
  have hd := hy.2.1
  rw [e, rd_blk (w := 8) (wI := 8) rfl (by omega) (by omega) (by omega)]
  rfl)
theorem my_w25 (hy : wfY M d X) {c : Nat} (hc : c < 8) : ∀ (v : Int32) (f : ia_H → Option ia_R), (ia_ast (my h a M d X dr wk sc) (a + 28) 0 ((8 : Int32) * nI d + nI c) v).bind f = f (my h a M d (sA X 4 ((X.2 4).set c v)) dr wk sc) := fun v => bs (by
  have e : ia_ast (my h a M d X dr wk sc) (a + 28) 0 ((8 : Int32) * nI d + nI c) v = (wr (blk (M.2.1 25) (8 * d) (X.2 4)) ((8 : Int32) * nI d + nI c) v).map _ := ast_of (show (my h a M d X dr wk sc).2.2 (a + 28) = .inl (0, blk (M.2.1 25) (8 * d) (X.2 4)) from put_in 28 (by decide)) _ _
  have hl : (M.2.1 25).length = 184 := hy.1 25 (by decide)
  have hx : (X.2 4).length = 8 := hy.2.2.2.1 4 (by decide) (by decide)
  have hd := hy.2.1
  rw [e, wr_blk (w := 8) (wI := 8) rfl (by omega) (by omega) (by omega), Option.map_some]
  exact congrArg some ((pM_a28 h a (mz M d X dr wk sc) _).trans (congrArg (pM h a) (mz_A (k := 25) (by decide) (by decide)))))
theorem my_r26 (hy : wfY M d X) {c : Nat} (hc : c < 8) : ∀ f : Int32 → Option ia_R, (ia_ald (my h a M d X dr wk sc) (a + 29) 0 ((8 : Int32) * nI d + nI c)).bind f = f (fA X 5 c) := bs (by
  have e : ia_ald (my h a M d X dr wk sc) (a + 29) 0 ((8 : Int32) * nI d + nI c) = rd (blk (M.2.1 26) (8 * d) (X.2 5)) ((8 : Int32) * nI d + nI c) := ald_of (put_in 29 (by decide)) _
  have hl : (M.2.1 26).length = 184 := hy.1 26 (by decide)
  have hx : (X.2 5).length = 8 := hy.2.2.2.1 5 (by decide) (by decide)
  have hd := hy.2.1
  rw [e, rd_blk (w := 8) (wI := 8) rfl (by omega) (by omega) (by omega)]
  rfl)
theorem my_w26 (hy : wfY M d X) {c : Nat} (hc : c < 8) : ∀ (v : Int32) (f : ia_H → Option ia_R), (ia_ast (my h a M d X dr wk sc) (a + 29) 0 ((8 : Int32) * nI d + nI c) v).bind f = f (my h a M d (sA X 5 ((X.2 5).set c v)) dr wk sc) := fun v => bs (by
  have e : ia_ast (my h a M d X dr wk sc) (a + 29) 0 ((8 : Int32) * nI d + nI c) v = (wr (blk (M.2.1 26) (8 * d) (X.2 5)) ((8 : Int32) * nI d + nI c) v).map _ := ast_of (show (my h a M d X dr wk sc).2.2 (a + 29) = .inl (0, blk (M.2.1 26) (8 * d) (X.2 5)) from put_in 29 (by decide)) _ _
  have hl : (M.2.1 26).length = 184 := hy.1 26 (by decide)
  have hx : (X.2 5).length = 8 := hy.2.2.2.1 5 (by decide) (by decide)
  have hd := hy.2.1
  rw [e, wr_blk (w := 8) (wI := 8) rfl (by omega) (by omega) (by omega), Option.map_some]
  exact congrArg some ((pM_a29 h a (mz M d X dr wk sc) _).trans (congrArg (pM h a) (mz_A (k := 26) (by decide) (by decide)))))
theorem my_r27 (hy : wfY M d X) {c : Nat} (hc : c < 10) : ∀ f : Int32 → Option ia_R, (ia_ald (my h a M d X dr wk sc) (a + 30) 0 ((10 : Int32) * nI d + nI c)).bind f = f (fA X 8 c) := bs (by
  have e : ia_ald (my h a M d X dr wk sc) (a + 30) 0 ((10 : Int32) * nI d + nI c) = rd (blk (M.2.1 27) (10 * d) (X.2 8)) ((10 : Int32) * nI d + nI c) := ald_of (put_in 30 (by decide)) _
  have hl : (M.2.1 27).length = 230 := hy.1 27 (by decide)
  have hx : (X.2 8).length = 10 := hy.2.2.2.2 8 (by decide) (by decide)
  have hd := hy.2.1
  rw [e, rd_blk (w := 10) (wI := 10) rfl (by omega) (by omega) (by omega)]
  rfl)
theorem my_w27 (hy : wfY M d X) {c : Nat} (hc : c < 10) : ∀ (v : Int32) (f : ia_H → Option ia_R), (ia_ast (my h a M d X dr wk sc) (a + 30) 0 ((10 : Int32) * nI d + nI c) v).bind f = f (my h a M d (sA X 8 ((X.2 8).set c v)) dr wk sc) := fun v => bs (by
  have e : ia_ast (my h a M d X dr wk sc) (a + 30) 0 ((10 : Int32) * nI d + nI c) v = (wr (blk (M.2.1 27) (10 * d) (X.2 8)) ((10 : Int32) * nI d + nI c) v).map _ := ast_of (show (my h a M d X dr wk sc).2.2 (a + 30) = .inl (0, blk (M.2.1 27) (10 * d) (X.2 8)) from put_in 30 (by decide)) _ _
  have hl : (M.2.1 27).length = 230 := hy.1 27 (by decide)
  have hx : (X.2 8).length = 10 := hy.2.2.2.2 8 (by decide) (by decide)
  have hd := hy.2.1
  rw [e, wr_blk (w := 10) (wI := 10) rfl (by omega) (by omega) (by omega), Option.map_some]
  exact congrArg some ((pM_a30 h a (mz M d X dr wk sc) _).trans (congrArg (pM h a) (mz_A (k := 27) (by decide) (by decide)))))
theorem my_r28 (hy : wfY M d X) {c : Nat} (hc : c < 10) : ∀ f : Int32 → Option ia_R, (ia_ald (my h a M d X dr wk sc) (a + 31) 0 ((10 : Int32) * nI d + nI c)).bind f = f (fA X 9 c) := bs (by
  have e : ia_ald (my h a M d X dr wk sc) (a + 31) 0 ((10 : Int32) * nI d + nI c) = rd (blk (M.2.1 28) (10 * d) (X.2 9)) ((10 : Int32) * nI d + nI c) := ald_of (put_in 31 (by decide)) _
  have hl : (M.2.1 28).length = 230 := hy.1 28 (by decide)
  have hx : (X.2 9).length = 10 := hy.2.2.2.2 9 (by decide) (by decide)
  have hd := hy.2.1
  rw [e, rd_blk (w := 10) (wI := 10) rfl (by omega) (by omega) (by omega)]
  rfl)
theorem my_w28 (hy : wfY M d X) {c : Nat} (hc : c < 10) : ∀ (v : Int32) (f : ia_H → Option ia_R), (ia_ast (my h a M d X dr wk sc) (a + 31) 0 ((10 : Int32) * nI d + nI c) v).bind f = f (my h a M d (sA X 9 ((X.2 9).set c v)) dr wk sc) := fun v => bs (by
  have e : ia_ast (my h a M d X dr wk sc) (a + 31) 0 ((10 : Int32) * nI d + nI c) v = (wr (blk (M.2.1 28) (10 * d) (X.2 9)) ((10 : Int32) * nI d + nI c) v).map _ := ast_of (show (my h a M d X dr wk sc).2.2 (a + 31) = .inl (0, blk (M.2.1 28) (10 * d) (X.2 9)) from put_in 31 (by decide)) _ _
  have hl : (M.2.1 28).length = 230 := hy.1 28 (by decide)
  have hx : (X.2 9).length = 10 := hy.2.2.2.2 9 (by decide) (by decide)
  have hd := hy.2.1
  rw [e, wr_blk (w := 10) (wI := 10) rfl (by omega) (by omega) (by omega), Option.map_some]
  exact congrArg some ((pM_a31 h a (mz M d X dr wk sc) _).trans (congrArg (pM h a) (mz_A (k := 28) (by decide) (by decide)))))
theorem my_r29 (hy : wfY M d X) {c : Nat} (hc : c < 10) : ∀ f : Int32 → Option ia_R, (ia_ald (my h a M d X dr wk sc) (a + 32) 0 ((10 : Int32) * nI d + nI c)).bind f = f (fA X 10 c) := bs (by
  have e : ia_ald (my h a M d X dr wk sc) (a + 32) 0 ((10 : Int32) * nI d + nI c) = rd (blk (M.2.1 29) (10 * d) (X.2 10)) ((10 : Int32) * nI d + nI c) := ald_of (put_in 32 (by decide)) _
  have hl : (M.2.1 29).length = 230 := hy.1 29 (by decide)
  have hx : (X.2 10).length = 10 := hy.2.2.2.2 10 (by decide) (by decide)
  have hd := hy.2.1
  rw [e, rd_blk (w := 10) (wI := 10) rfl (by omega) (by omega) (by omega)]
  rfl)
theorem my_w29 (hy : wfY M d X) {c : Nat} (hc : c < 10) : ∀ (v : Int32) (f : ia_H → Option ia_R), (ia_ast (my h a M d X dr wk sc) (a + 32) 0 ((10 : Int32) * nI d + nI c) v).bind f = f (my h a M d (sA X 10 ((X.2 10).set c v)) dr wk sc) := fun v => bs (by
  have e : ia_ast (my h a M d X dr wk sc) (a + 32) 0 ((10 : Int32) * nI d + nI c) v = (wr (blk (M.2.1 29) (10 * d) (X.2 10)) ((10 : Int32) * nI d + nI c) v).map _ := ast_of (show (my h a M d X dr wk sc).2.2 (a + 32) = .inl (0, blk (M.2.1 29) (10 * d) (X.2 10)) from put_in 32 (by decide)) _ _
  have hl : (M.2.1 29).length = 230 := hy.1 29 (by decide)
  have hx : (X.2 10).length = 10 := hy.2.2.2.2 10 (by decide) (by decide)
  have hd := hy.2.1
  rw [e, wr_blk (w := 10) (wI := 10) rfl (by omega) (by omega) (by omega), Option.map_some]
  exact congrArg some ((pM_a32 h a (mz M d X dr wk sc) _).trans (congrArg (pM h a) (mz_A (k := 29) (by decide) (by decide)))))
theorem my_r30 (hy : wfY M d X) {c : Nat} (hc : c < 10) : ∀ f : Int32 → Option ia_R, (ia_ald (my h a M d X dr wk sc) (a + 33) 0 ((10 : Int32) * nI d + nI c)).bind f = f (fA X 11 c) := bs (by
  have e : ia_ald (my h a M d X dr wk sc) (a + 33) 0 ((10 : Int32) * nI d + nI c) = rd (blk (M.2.1 30) (10 * d) (X.2 11)) ((10 : Int32) * nI d + nI c) := ald_of (put_in 33 (by decide)) _
  have hl : (M.2.1 30).length = 230 := hy.1 30 (by decide)
  have hx : (X.2 11).length = 10 := hy.2.2.2.2 11 (by decide) (by decide)
  have hd := hy.2.1
  rw [e, rd_blk (w := 10) (wI := 10) rfl (by omega) (by omega) (by omega)]
  rfl)
theorem my_w30 (hy : wfY M d X) {c : Nat} (hc : c < 10) : ∀ (v : Int32) (f : ia_H → Option ia_R), (ia_ast (my h a M d X dr wk sc) (a + 33) 0 ((10 : Int32) * nI d + nI c) v).bind f = f (my h a M d (sA X 11 ((X.2 11).set c v)) dr wk sc) := fun v => bs (by
  have e : ia_ast (my h a M d X dr wk sc) (a + 33) 0 ((10 : Int32) * nI d + nI c) v = (wr (blk (M.2.1 30) (10 * d) (X.2 11)) ((10 : Int32) * nI d + nI c) v).map _ := ast_of (show (my h a M d X dr wk sc).2.2 (a + 33) = .inl (0, blk (M.2.1 30) (10 * d) (X.2 11)) from put_in 33 (by decide)) _ _
  have hl : (M.2.1 30).length = 230 := hy.1 30 (by decide)
  have hx : (X.2 11).length = 10 := hy.2.2.2.2 11 (by decide) (by decide)
  have hd := hy.2.1
  rw [e, wr_blk (w := 10) (wI := 10) rfl (by omega) (by omega) (by omega), Option.map_some]
  exact congrArg some ((pM_a33 h a (mz M d X dr wk sc) _).trans (congrArg (pM h a) (mz_A (k := 30) (by decide) (by decide)))))
end MY
