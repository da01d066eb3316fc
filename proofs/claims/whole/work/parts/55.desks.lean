/-! The reference's desks (written by gendesk.py). -/
def ikW (k : Nat) : Nat := if k < 6 then k + 21 else k + 19
/-- desk d of M, with X's calls -/
def dkW (M : aG) (d : Nat) (X : aW) : aW := (fun k => if k < 3 then fG M (18 + k) d else X.1 k, fun k => if k = 6 ∨ k = 7 then X.2 k else ((M.2.1 (ikW k)).drop (lenW k * d)).take (lenW k))
def dkA (M : aG) (d : Nat) (X : aW) (t r p : Nat) : Prop := fG M 18 d = X.1 0 ∧ fG M 19 d = X.1 1 ∧ fG M 20 d = X.1 2 ∧ (∀ k, k < 2 → ∀ i, i < p → fG M (ikW k) (6 * d + i) = fA X k i) ∧ (∀ k, 2 ≤ k → k < 6 → ∀ i, i < t → fG M (ikW k) (8 * d + i) = fA X k i) ∧ (∀ k, 8 ≤ k → k < 12 → ∀ i, i < r → fG M (ikW k) (10 * d + i) = fA X k i)
theorem mlen_desk : ∀ k, k < 12 → k ≠ 6 → k ≠ 7 → mlen (ikW k) = lenW k * 23 := by decide
theorem ikW_k : ∀ k, k < 12 → k ≠ 6 → k ≠ 7 → 21 ≤ ikW k ∧ ikW k < 31 ∧ wdM (ikW k) = lenW k ∧ kwM (ikW k) = k := by decide
theorem take_get {l : List Int32} {b w i : Nat} (hi : i < w) : ((l.drop b).take w).getD i 0 = l.getD (b + i) 0 := by
  rw [List.getD_eq_getElem?_getD, List.getD_eq_getElem?_getD, List.getElem?_take, if_pos hi, List.getElem?_drop]
theorem blk_self {l : List Int32} {b w : Nat} (h : b + w ≤ l.length) : blk l b ((l.drop b).take w) = l := by
  have hl : ((l.drop b).take w).length = w := by rw [List.length_take, List.length_drop]; omega
  apply List.ext_getElem?
  intro j
  by_cases hin : j < b ∨ b + ((l.drop b).take w).length ≤ j
  · rw [blk_out (by omega) hin]
  · obtain ⟨k, rfl⟩ : ∃ k, j = b + k := ⟨j - b, by omega⟩
    rw [blk_in (by omega) (by omega), List.getElem?_take, if_pos (by omega), List.getElem?_drop]
section DK
variable {M : aG} {d : Nat} {X Y : aW} {t r p : Nat} {dr wk : Int32} {sc : List Int64 × List Int64}
theorem dk_len (hl : lnM M) (hd : d < 23) (hX : lnX X) : lnX (dkW M d X) := by
  have key : ∀ k, k < 12 → ((dkW M d X).2 k).length = lenW k := fun k hk => by
    show (if k = 6 ∨ k = 7 then X.2 k else ((M.2.1 (ikW k)).drop (lenW k * d)).take (lenW k)).length = lenW k
    by_cases c : k = 6 ∨ k = 7
    · rw [if_pos c]
      exact lnX_len hX hk
    · rw [if_neg c, List.length_take, List.length_drop]
      have c6 : k ≠ 6 := fun e => c (Or.inl e)
      have c7 : k ≠ 7 := fun e => c (Or.inr e)
      have h1 := (ikW_k k hk c6 c7)
      rw [hl (ikW k) (by omega), mlen_desk k hk c6 c7]
      have : lenW k * d + lenW k ≤ lenW k * 23 := by
        rw [← Nat.mul_succ]
        exact Nat.mul_le_mul_left _ (by omega)
      omega
  refine ⟨fun k hk => ?_, fun k h1 h2 => ?_, fun k h1 h2 => ?_⟩
  · rw [key k (by omega)]; unfold lenW; rw [if_pos hk]
  · rw [key k (by omega)]; unfold lenW; rw [if_neg (by omega), if_pos h2]
  · rw [key k h2]; unfold lenW; rw [if_neg (by omega), if_neg (by omega)]
theorem mz_dk (hl : lnM M) (hd : d < 23) : mz M d (dkW M d X) (M.1 22) (M.1 15) (M.2.2.2.1 0, M.2.2.2.1 1) = M := by
  unfold mz
  refine Prod.ext ?_ (Prod.ext ?_ (Prod.ext rfl (Prod.ext ?_ rfl)))
  · show va_up (va_up M.1 15 (M.1 15)) 22 (M.1 22) = M.1
    rw [up_id, up_id]
  · funext k
    show mwR M d (dkW M d X) k = M.2.1 k
    unfold mwR
    by_cases c1 : k < 18
    · rw [if_pos c1]
    · by_cases c2 : k < 21
      · rw [if_neg c1, if_pos c2]
        apply set_id
        show (if k - 18 < 3 then fG M (18 + (k - 18)) d else _) = _
        rw [if_pos (by omega), show 18 + (k - 18) = k by omega]
        rfl
      · by_cases c3 : k < 31
        · rw [if_neg c1, if_neg c2, if_pos c3]
          have hk : ∀ k, 21 ≤ k → k < 31 → kwM k < 12 ∧ kwM k ≠ 6 ∧ kwM k ≠ 7 ∧ ikW (kwM k) = k ∧ lenW (kwM k) = wdM k ∧ mlen k = wdM k * 23 := by
            intro k h1 h2
            have : ∀ k, k < 31 → 21 ≤ k → kwM k < 12 ∧ kwM k ≠ 6 ∧ kwM k ≠ 7 ∧ ikW (kwM k) = k ∧ lenW (kwM k) = wdM k ∧ mlen k = wdM k * 23 := by decide
            exact this k h2 h1
          obtain ⟨h1, h2, h3, h4, h5, h6⟩ := hk k (by omega) c3
          show blk (M.2.1 k) (wdM k * d) (if kwM k = 6 ∨ kwM k = 7 then X.2 (kwM k) else ((M.2.1 (ikW (kwM k))).drop (lenW (kwM k) * d)).take (lenW (kwM k))) = M.2.1 k
          rw [if_neg (fun z => z.elim h2 h3), h4, h5]
          apply blk_self
          rw [hl k (by omega), h6, ← Nat.mul_succ]
          exact Nat.mul_le_mul_left _ (by omega)
        · rw [if_neg c1, if_neg c2, if_neg c3]
  · show va_up (va_up M.2.2.2.1 0 (M.2.2.2.1 0)) 1 (M.2.2.2.1 1) = M.2.2.2.1
    rw [up_id, up_id]
theorem dk_f (k i : Nat) (h6 : k ≠ 6) (h7 : k ≠ 7) (hi : i < lenW k) : fA (dkW M d X) k i = fG M (ikW k) (lenW k * d + i) := by
  unfold fA fG
  show (if k = 6 ∨ k = 7 then X.2 k else ((M.2.1 (ikW k)).drop (lenW k * d)).take (lenW k)).getD i 0 = _
  rw [if_neg (fun z => z.elim h6 h7), take_get hi]
theorem dk_f67 (k i : Nat) (h : k = 6 ∨ k = 7) : fA (dkW M d X) k i = fA X k i := by
  unfold fA
  show (if k = 6 ∨ k = 7 then X.2 k else _).getD i 0 = _
  rw [if_pos h]
theorem dk_ag (hp : p ≤ 6) (ht : t ≤ 8) (hr : r ≤ 10) (h : dkA M d X t r p) : agW (dkW M d X) X t r p := by
  obtain ⟨h1, h2, h3, h4, h5, h6⟩ := h
  refine ⟨h1, h2, fun k hk i hi => ?_, fun k hk hk2 i hi => ?_, fun k hk hk2 i hi => ?_⟩
  · have e : lenW k = 6 := by unfold lenW; rw [if_pos hk]
    rw [dk_f k i (by omega) (by omega) (by omega), e]
    exact h4 k hk i hi
  · have e : lenW k = 8 := by unfold lenW; rw [if_neg (by omega), if_pos hk2]
    rw [dk_f k i (by omega) (by omega) (by omega), e]
    exact h5 k hk hk2 i hi
  · by_cases c : k = 6 ∨ k = 7
    · rw [dk_f67 k i c]
    · have e : lenW k = 10 := by unfold lenW; rw [if_neg (by omega), if_neg (by omega)]
      rw [dk_f k i (fun z => c (Or.inl z)) (fun z => c (Or.inr z)) (by omega), e]
      exact h6 k (by omega) hk2 i hi
theorem ag_wf (hl : lnX Y) (h2 : Y.1 2 = X.1 2) (h3 : Y.1 3 = X.1 3) (h : agW Y X t r p) (hX : wfX X t r p) : wfX Y t r p := by
  obtain ⟨⟨a1, a2, a3, a4, -⟩, b, c1, c2, c3⟩ := hX
  refine ⟨⟨h2.trans a1, h3.trans a2, a3, a4, hl⟩, b, fun i hi => ?_, fun i hi => ?_, fun i hi => ?_⟩
  · rw [h.2.2.2.1 2 (by decide) (by decide) i hi]; exact c1 i hi
  · rw [h.2.2.2.2 6 (by decide) (by decide) i hi]; exact c2 i hi
  · rw [h.2.2.2.2 7 (by decide) (by decide) i hi]; exact c3 i hi
theorem dk_wf (hl : lnM M) (hd : d < 23) (hX : wfX X t r p) (h : dkA M d X t r p) : wfX (dkW M d X) t r p :=
  ag_wf (dk_len hl hd hX.1.lnX) h.2.2.1 rfl (dk_ag hX.2.1 hX.1.2.2.1 hX.1.2.2.2.1 h) hX
theorem dk_cm (h : cmM M X r) : cmM M (dkW M d X) r := fun i hi => by
  rw [dk_f67 6 i (Or.inl rfl), dk_f67 7 i (Or.inr rfl)]
  exact h i hi
theorem ag_bd {q : Nat} (h : agW Y X t r p) (hb : bdX X r q) : bdX Y r q := by
  refine ⟨h.1.trans hb.1, fun i hi => ?_, fun i hi => ?_⟩
  · rw [h.2.2.2.2 8 (by decide) (by decide) i hi]; exact hb.2.1 i hi
  · rw [h.2.2.2.2 9 (by decide) (by decide) i hi]; exact hb.2.2 i hi
theorem mz_r (k : Nat) : (mz M d X dr wk sc).2.1 k = mwR M d X k := rfl
theorem mz_ln (hl : lnM M) (hX : lnX X) (hd : d < 23) : lnM (mz M d X dr wk sc) := fun k hk => by
  rw [mz_r]
  unfold mwR
  by_cases c1 : k < 18
  · rw [if_pos c1]; exact hl k hk
  · by_cases c2 : k < 21
    · rw [if_neg c1, if_pos c2, List.length_set]; exact hl k hk
    · by_cases c3 : k < 31
      · rw [if_neg c1, if_neg c2, if_pos c3, blk_len]
        · exact hl k hk
        · have : ∀ k, k < 31 → 21 ≤ k → kwM k < 12 ∧ lenW (kwM k) = wdM k ∧ mlen k = wdM k * 23 := by decide
          obtain ⟨h1, h2, h3⟩ := this k c3 (by omega)
          rw [lnX_len hX h1, h2, hl k hk, h3, ← Nat.mul_succ]
          exact Nat.mul_le_mul_left _ (by omega)
      · rw [if_neg c1, if_neg c2, if_neg c3]; exact hl k hk
/-- rows that are no desk's -/
theorem mz_k {k : Nat} (h : k < 18 ∨ 31 ≤ k) : (mz M d X dr wk sc).2.1 k = M.2.1 k := by
  rw [mz_r]
  unfold mwR
  by_cases c1 : k < 18
  · rw [if_pos c1]
  · rw [if_neg c1, if_neg (by omega), if_neg (by omega)]
theorem mz_fk {k : Nat} (h : k < 18 ∨ 31 ≤ k) : fG (mz M d X dr wk sc) k = fG M k := by
  unfold fG
  rw [mz_k h]
theorem mz_f1 (hl : lnM M) {k d' : Nat} (hk : 18 ≤ k) (hk2 : k < 21) (hd : d < 23) : fG (mz M d X dr wk sc) k d' = if d' = d then X.1 (k - 18) else fG M k d' := by
  unfold fG
  rw [mz_r]
  unfold mwR
  rw [if_neg (by omega), if_pos hk2, ia_set_getD]
  have : ∀ k, k < 21 → 18 ≤ k → mlen k = 23 := by decide
  rw [hl k (by omega), this k hk2 hk]
  exact hd
theorem blk_get {R l : List Int32} {b j : Nat} (h : b + l.length ≤ R.length) : (blk R b l).getD j 0 = if b ≤ j ∧ j < b + l.length then l.getD (j - b) 0 else R.getD j 0 := by
  rw [List.getD_eq_getElem?_getD]
  by_cases c : b ≤ j ∧ j < b + l.length
  · obtain ⟨k, rfl⟩ : ∃ k, j = b + k := ⟨j - b, by omega⟩
    rw [if_pos c, blk_in h (by omega), Nat.add_sub_cancel_left, List.getD_eq_getElem?_getD]
  · rw [if_neg c, blk_out h (by omega), List.getD_eq_getElem?_getD]
theorem mz_f2 (hl : lnM M) (hX : lnX X) {k d' i : Nat} (hk : k < 12) (h6 : k ≠ 6) (h7 : k ≠ 7) (hd : d < 23) (hi : i < lenW k) : fG (mz M d X dr wk sc) (ikW k) (lenW k * d' + i) = if d' = d then fA X k i else fG M (ikW k) (lenW k * d' + i) := by
  obtain ⟨h1, h2, h3, h4⟩ := ikW_k k hk h6 h7
  have hle : lenW k * d + lenW k ≤ lenW k * 23 := by
    rw [← Nat.mul_succ]
    exact Nat.mul_le_mul_left _ (by omega)
  unfold fG
  rw [mz_r]
  unfold mwR
  rw [if_neg (by omega), if_neg (by omega), if_pos h2, h3, h4, blk_get (by rw [lnX_len hX hk, hl _ (by omega), mlen_desk k hk h6 h7]; exact hle), lnX_len hX hk]
  by_cases c : d' = d
  · subst c
    rw [if_pos (by omega), if_pos rfl, Nat.add_sub_cancel_left]
    rfl
  · rw [if_neg c, if_neg]
    intro z
    rcases Nat.lt_or_ge d' d with q | q
    · have : lenW k * (d' + 1) ≤ lenW k * d := Nat.mul_le_mul_left _ q
      rw [Nat.mul_succ] at this
      omega
    · have : lenW k * (d + 1) ≤ lenW k * d' := Nat.mul_le_mul_left _ (by omega)
      rw [Nat.mul_succ] at this
      omega
theorem dk_mz (hl : lnM M) (hY : lnX Y) (hd : d < 23) (h2 : Y.1 2 = X.1 2) (h : agW Y X t r p) (hp : p ≤ 6) (ht : t ≤ 8) (hr : r ≤ 10) : dkA (mz M d Y dr wk sc) d X t r p := by
  refine ⟨?_, ?_, ?_, fun k hk i hi => ?_, fun k hk hk2 i hi => ?_, fun k hk hk2 i hi => ?_⟩
  · rw [mz_f1 hl (by decide) (by decide) hd, if_pos rfl]; exact h.1
  · rw [mz_f1 hl (by decide) (by decide) hd, if_pos rfl]; exact h.2.1
  · rw [mz_f1 hl (by decide) (by decide) hd, if_pos rfl]; exact h2
  · have e : lenW k = 6 := by unfold lenW; rw [if_pos hk]
    rw [← e, mz_f2 hl hY (by omega) (by omega) (by omega) hd (by omega), if_pos rfl]
    exact h.2.2.1 k hk i hi
  · have e : lenW k = 8 := by unfold lenW; rw [if_neg (by omega), if_pos hk2]
    rw [← e, mz_f2 hl hY (by omega) (by omega) (by omega) hd (by omega), if_pos rfl]
    exact h.2.2.2.1 k hk hk2 i hi
  · have e : lenW k = 10 := by unfold lenW; rw [if_neg (by omega), if_neg (by omega)]
    rw [← e, mz_f2 hl hY (by omega) (by omega) (by omega) hd (by omega), if_pos rfl]
    exact h.2.2.2.2 k (by omega) hk2 i hi
theorem dk_ne (hl : lnM M) (hY : lnX Y) (hd : d < 23) {d' : Nat} (hne : d' ≠ d) (h : dkA M d' X t r p) (hp : p ≤ 6) (ht : t ≤ 8) (hr : r ≤ 10) : dkA (mz M d Y dr wk sc) d' X t r p := by
  obtain ⟨h1, h2, h3, h4, h5, h6⟩ := h
  refine ⟨?_, ?_, ?_, fun k hk i hi => ?_, fun k hk hk2 i hi => ?_, fun k hk hk2 i hi => ?_⟩
  · rw [mz_f1 hl (by decide) (by decide) hd, if_neg hne]; exact h1
  · rw [mz_f1 hl (by decide) (by decide) hd, if_neg hne]; exact h2
  · rw [mz_f1 hl (by decide) (by decide) hd, if_neg hne]; exact h3
  · have e : lenW k = 6 := by unfold lenW; rw [if_pos hk]
    have := h4 k hk i hi
    rw [← e] at this ⊢
    rw [mz_f2 hl hY (by omega) (by omega) (by omega) hd (by omega), if_neg hne]
    exact this
  · have e : lenW k = 8 := by unfold lenW; rw [if_neg (by omega), if_pos hk2]
    have := h5 k hk hk2 i hi
    rw [← e] at this ⊢
    rw [mz_f2 hl hY (by omega) (by omega) (by omega) hd (by omega), if_neg hne]
    exact this
  · have e : lenW k = 10 := by unfold lenW; rw [if_neg (by omega), if_neg (by omega)]
    have := h6 k hk hk2 i hi
    rw [← e] at this ⊢
    rw [mz_f2 hl hY (by omega) (by omega) (by omega) hd (by omega), if_neg hne]
    exact this
theorem my_dk {h : ia_H} {a : Nat} (hl : lnM M) (hd : d < 23) : my h a M d (dkW M d X) (M.1 22) (M.1 15) (M.2.2.2.1 0, M.2.2.2.1 1) = pM h a M := by
  unfold my
  rw [mz_dk hl hd]
/-- what desk d tells is all that is looked at -/
theorem my_ext {h : ia_H} {a : Nat} (h1 : ∀ k, k < 3 → X.1 k = Y.1 k) (h2 : ∀ k, k < 12 → k ≠ 6 → k ≠ 7 → X.2 k = Y.2 k) : my h a M d X dr wk sc = my h a M d Y dr wk sc := by
  unfold my mz
  have e : mwR M d X = mwR M d Y := by
    funext k
    unfold mwR
    by_cases c1 : k < 18
    · rw [if_pos c1, if_pos c1]
    · by_cases c2 : k < 21
      · rw [if_neg c1, if_neg c1, if_pos c2, if_pos c2, h1 (k - 18) (by omega)]
      · by_cases c3 : k < 31
        · have : ∀ k, k < 31 → 21 ≤ k → kwM k < 12 ∧ kwM k ≠ 6 ∧ kwM k ≠ 7 := by decide
          obtain ⟨g1, g2, g3⟩ := this k c3 (by omega)
          rw [if_neg c1, if_neg c1, if_neg c2, if_neg c2, if_pos c3, if_pos c3, h2 _ g1 g2 g3]
        · rw [if_neg c1, if_neg c1, if_neg c2, if_neg c2, if_neg c3, if_neg c3]
  rw [e]
end DK
section MO
variable {h : ia_H} {a : Nat} {M : aG} {d d' : Nat} {X : aW} {dr wk : Int32} {sc : List Int64 × List Int64}
theorem my_o18 (hl : lnM M) (hd : d < 23) (hd' : d' < 23) (hne : d' ≠ d) : ∀ f : Int32 → Option ia_R, (ia_ald (my h a M d X dr wk sc) (a + 21) 0 (nI d')).bind f = f (fG M 18 d') := bs (by
  have e : (pM h a (mz M d X dr wk sc)).2.2 (a + 21) = .inl (0, mwR M d X 18) := put_in 21 (by decide)
  show ia_ald (pM h a (mz M d X dr wk sc)) (a + 21) 0 (nI d') = _
  rw [ald_of e, rdN (by show d' < ((M.2.1 18).set d (X.1 0)).length; rw [List.length_set, hl 18 (by decide)]; exact hd') (by show ((M.2.1 18).set d (X.1 0)).length < 2 ^ 31; rw [List.length_set, hl 18 (by decide)]; decide)]
  exact congrArg some (by have := mz_f1 (X := X) (dr := dr) (wk := wk) (sc := sc) hl (k := 18) (d' := d') (by decide) (by decide) hd; rw [if_neg hne] at this; exact this))
theorem my_o19 (hl : lnM M) (hd : d < 23) (hd' : d' < 23) (hne : d' ≠ d) : ∀ f : Int32 → Option ia_R, (ia_ald (my h a M d X dr wk sc) (a + 22) 0 (nI d')).bind f = f (fG M 19 d') := bs (by
  have e : (pM h a (mz M d X dr wk sc)).2.2 (a + 22) = .inl (0, mwR M d X 19) := put_in 22 (by decide)
  show ia_ald (pM h a (mz M d X dr wk sc)) (a + 22) 0 (nI d') = _
  rw [ald_of e, rdN (by show d' < ((M.2.1 19).set d (X.1 1)).length; rw [List.length_set, hl 19 (by decide)]; exact hd') (by show ((M.2.1 19).set d (X.1 1)).length < 2 ^ 31; rw [List.length_set, hl 19 (by decide)]; decide)]
  exact congrArg some (by have := mz_f1 (X := X) (dr := dr) (wk := wk) (sc := sc) hl (k := 19) (d' := d') (by decide) (by decide) hd; rw [if_neg hne] at this; exact this))
theorem my_o20 (hl : lnM M) (hd : d < 23) (hd' : d' < 23) (hne : d' ≠ d) : ∀ f : Int32 → Option ia_R, (ia_ald (my h a M d X dr wk sc) (a + 23) 0 (nI d')).bind f = f (fG M 20 d') := bs (by
  have e : (pM h a (mz M d X dr wk sc)).2.2 (a + 23) = .inl (0, mwR M d X 20) := put_in 23 (by decide)
  show ia_ald (pM h a (mz M d X dr wk sc)) (a + 23) 0 (nI d') = _
  rw [ald_of e, rdN (by show d' < ((M.2.1 20).set d (X.1 2)).length; rw [List.length_set, hl 20 (by decide)]; exact hd') (by show ((M.2.1 20).set d (X.1 2)).length < 2 ^ 31; rw [List.length_set, hl 20 (by decide)]; decide)]
  exact congrArg some (by have := mz_f1 (X := X) (dr := dr) (wk := wk) (sc := sc) hl (k := 20) (d' := d') (by decide) (by decide) hd; rw [if_neg hne] at this; exact this))
theorem my_o21 (hy : wfY M d X) (hd' : d' < 23) (hne : d' ≠ d) {c : Nat} (hc : c < 6) : ∀ f : Int32 → Option ia_R, (ia_ald (my h a M d X dr wk sc) (a + 24) 0 ((6 : Int32) * nI d' + nI c)).bind f = f (fG M 21 (6 * d' + c)) := bs (by
  have e : (pM h a (mz M d X dr wk sc)).2.2 (a + 24) = .inl (0, mwR M d X 21) := put_in 24 (by decide)
  have hlen : (mwR M d X 21).length = 138 := (mz_ln (dr := dr) (wk := wk) (sc := sc) hy.1 hy.2.2 hy.2.1) 21 (by decide)
  show ia_ald (pM h a (mz M d X dr wk sc)) (a + 24) 0 _ = _
  rw [ald_of e, idx_nI (w := 6) (wI := 6) rfl, rdN (by rw [hlen]; omega) (by rw [hlen]; decide)]
  exact congrArg some (by have := mz_f2 (dr := dr) (wk := wk) (sc := sc) hy.1 hy.2.2 (k := 0) (d' := d') (i := c) (by decide) (by decide) (by decide) hy.2.1 hc; rw [if_neg hne] at this; exact this))
theorem my_o22 (hy : wfY M d X) (hd' : d' < 23) (hne : d' ≠ d) {c : Nat} (hc : c < 6) : ∀ f : Int32 → Option ia_R, (ia_ald (my h a M d X dr wk sc) (a + 25) 0 ((6 : Int32) * nI d' + nI c)).bind f = f (fG M 22 (6 * d' + c)) := bs (by
  have e : (pM h a (mz M d X dr wk sc)).2.2 (a + 25) = .inl (0, mwR M d X 22) := put_in 25 (by decide)
  have hlen : (mwR M d X 22).length = 138 := (mz_ln (dr := dr) (wk := wk) (sc := sc) hy.1 hy.2.2 hy.2.1) 22 (by decide)
  show ia_ald (pM h a (mz M d X dr wk sc)) (a + 25) 0 _ = _
  rw [ald_of e, idx_nI (w := 6) (wI := 6) rfl, rdN (by rw [hlen]; omega) (by rw [hlen]; decide)]
  exact congrArg some (by have := mz_f2 (dr := dr) (wk := wk) (sc := sc) hy.1 hy.2.2 (k := 1) (d' := d') (i := c) (by decide) (by decide) (by decide) hy.2.1 hc; rw [if_neg hne] at this; exact this))
theorem my_o23 (hy : wfY M d X) (hd' : d' < 23) (hne : d' ≠ d) {c : Nat} (hc : c < 8) : ∀ f : Int32 → Option ia_R, (ia_ald (my h a M d X dr wk sc) (a + 26) 0 ((8 : Int32) * nI d' + nI c)).bind f = f (fG M 23 (8 * d' + c)) := bs (by
  have e : (pM h a (mz M d X dr wk sc)).2.2 (a + 26) = .inl (0, mwR M d X 23) := put_in 26 (by decide)
  have hlen : (mwR M d X 23).length = 184 := (mz_ln (dr := dr) (wk := wk) (sc := sc) hy.1 hy.2.2 hy.2.1) 23 (by decide)
  show ia_ald (pM h a (mz M d X dr wk sc)) (a + 26) 0 _ = _
  rw [ald_of e, idx_nI (w := 8) (wI := 8) rfl, rdN (by rw [hlen]; omega) (by rw [hlen]; decide)]
  exact congrArg some (by have := mz_f2 (dr := dr) (wk := wk) (sc := sc) hy.1 hy.2.2 (k := 2) (d' := d') (i := c) (by decide) (by decide) (by decide) hy.2.1 hc; rw [if_neg hne] at this; exact this))
theorem my_o24 (hy : wfY M d X) (hd' : d' < 23) (hne : d' ≠ d) {c : Nat} (hc : c < 8) : ∀ f : Int32 → Option ia_R, (ia_ald (my h a M d X dr wk sc) (a + 27) 0 ((8 : Int32) * nI d' + nI c)).bind f = f (fG M 24 (8 * d' + c)) := bs (by
  have e : (pM h a (mz M d X dr wk sc)).2.2 (a + 27) = .inl (0, mwR M d X 24) := put_in 27 (by decide)
  have hlen : (mwR M d X 24).length = 184 := (mz_ln (dr := dr) (wk := wk) (sc := sc) hy.1 hy.2.2 hy.2.1) 24 (by decide)
  show ia_ald (pM h a (mz M d X dr wk sc)) (a + 27) 0 _ = _
  rw [ald_of e, idx_nI (w := 8) (wI := 8) rfl, rdN (by rw [hlen]; omega) (by rw [hlen]; decide)]
  exact congrArg some (by have := mz_f2 (dr := dr) (wk := wk) (sc := sc) hy.1 hy.2.2 (k := 3) (d' := d') (i := c) (by decide) (by decide) (by decide) hy.2.1 hc; rw [if_neg hne] at this; exact this))
theorem my_o25 (hy : wfY M d X) (hd' : d' < 23) (hne : d' ≠ d) {c : Nat} (hc : c < 8) : ∀ f : Int32 → Option ia_R, (ia_ald (my h a M d X dr wk sc) (a + 28) 0 ((8 : Int32) * nI d' + nI c)).bind f = f (fG M 25 (8 * d' + c)) := bs (by
  have e : (pM h a (mz M d X dr wk sc)).2.2 (a + 28) = .inl (0, mwR M d X 25) := put_in 28 (by decide)
  have hlen : (mwR M d X 25).length = 184 := (mz_ln (dr := dr) (wk := wk) (sc := sc) hy.1 hy.2.2 hy.2.1) 25 (by decide)
  show ia_ald (pM h a (mz M d X dr wk sc)) (a + 28) 0 _ = _
  rw [ald_of e, idx_nI (w := 8) (wI := 8) rfl, rdN (by rw [hlen]; omega) (by rw [hlen]; decide)]
  exact congrArg some (by have := mz_f2 (dr := dr) (wk := wk) (sc := sc) hy.1 hy.2.2 (k := 4) (d' := d') (i := c) (by decide) (by decide) (by decide) hy.2.1 hc; rw [if_neg hne] at this; exact this))
theorem my_o26 (hy : wfY M d X) (hd' : d' < 23) (hne : d' ≠ d) {c : Nat} (hc : c < 8) : ∀ f : Int32 → Option ia_R, (ia_ald (my h a M d X dr wk sc) (a + 29) 0 ((8 : Int32) * nI d' + nI c)).bind f = f (fG M 26 (8 * d' + c)) := bs (by
  have e : (pM h a (mz M d X dr wk sc)).2.2 (a + 29) = .inl (0, mwR M d X 26) := put_in 29 (by decide)
  have hlen : (mwR M d X 26).length = 184 := (mz_ln (dr := dr) (wk := wk) (sc := sc) hy.1 hy.2.2 hy.2.1) 26 (by decide)
  show ia_ald (pM h a (mz M d X dr wk sc)) (a + 29) 0 _ = _
  rw [ald_of e, idx_nI (w := 8) (wI := 8) rfl, rdN (by rw [hlen]; omega) (by rw [hlen]; decide)]
  exact congrArg some (by have := mz_f2 (dr := dr) (wk := wk) (sc := sc) hy.1 hy.2.2 (k := 5) (d' := d') (i := c) (by decide) (by decide) (by decide) hy.2.1 hc; rw [if_neg hne] at this; exact this))
theorem my_o27 (hy : wfY M d X) (hd' : d' < 23) (hne : d' ≠ d) {c : Nat} (hc : c < 10) : ∀ f : Int32 → Option ia_R, (ia_ald (my h a M d X dr wk sc) (a + 30) 0 ((10 : Int32) * nI d' + nI c)).bind f = f (fG M 27 (10 * d' + c)) := bs (by
  have e : (pM h a (mz M d X dr wk sc)).2.2 (a + 30) = .inl (0, mwR M d X 27) := put_in 30 (by decide)
  have hlen : (mwR M d X 27).length = 230 := (mz_ln (dr := dr) (wk := wk) (sc := sc) hy.1 hy.2.2 hy.2.1) 27 (by decide)
  show ia_ald (pM h a (mz M d X dr wk sc)) (a + 30) 0 _ = _
  rw [ald_of e, idx_nI (w := 10) (wI := 10) rfl, rdN (by rw [hlen]; omega) (by rw [hlen]; decide)]
  exact congrArg some (by have := mz_f2 (dr := dr) (wk := wk) (sc := sc) hy.1 hy.2.2 (k := 8) (d' := d') (i := c) (by decide) (by decide) (by decide) hy.2.1 hc; rw [if_neg hne] at this; exact this))
theorem my_o28 (hy : wfY M d X) (hd' : d' < 23) (hne : d' ≠ d) {c : Nat} (hc : c < 10) : ∀ f : Int32 → Option ia_R, (ia_ald (my h a M d X dr wk sc) (a + 31) 0 ((10 : Int32) * nI d' + nI c)).bind f = f (fG M 28 (10 * d' + c)) := bs (by
  have e : (pM h a (mz M d X dr wk sc)).2.2 (a + 31) = .inl (0, mwR M d X 28) := put_in 31 (by decide)
  have hlen : (mwR M d X 28).length = 230 := (mz_ln (dr := dr) (wk := wk) (sc := sc) hy.1 hy.2.2 hy.2.1) 28 (by decide)
  show ia_ald (pM h a (mz M d X dr wk sc)) (a + 31) 0 _ = _
  rw [ald_of e, idx_nI (w := 10) (wI := 10) rfl, rdN (by rw [hlen]; omega) (by rw [hlen]; decide)]
  exact congrArg some (by have := mz_f2 (dr := dr) (wk := wk) (sc := sc) hy.1 hy.2.2 (k := 9) (d' := d') (i := c) (by decide) (by decide) (by decide) hy.2.1 hc; rw [if_neg hne] at this; exact this))
theorem my_o29 (hy : wfY M d X) (hd' : d' < 23) (hne : d' ≠ d) {c : Nat} (hc : c < 10) : ∀ f : Int32 → Option ia_R, (ia_ald (my h a M d X dr wk sc) (a + 32) 0 ((10 : Int32) * nI d' + nI c)).bind f = f (fG M 29 (10 * d' + c)) := bs (by
  have e : (pM h a (mz M d X dr wk sc)).2.2 (a + 32) = .inl (0, mwR M d X 29) := put_in 32 (by decide)
  have hlen : (mwR M d X 29).length = 230 := (mz_ln (dr := dr) (wk := wk) (sc := sc) hy.1 hy.2.2 hy.2.1) 29 (by decide)
  show ia_ald (pM h a (mz M d X dr wk sc)) (a + 32) 0 _ = _
  rw [ald_of e, idx_nI (w := 10) (wI := 10) rfl, rdN (by rw [hlen]; omega) (by rw [hlen]; decide)]
  exact congrArg some (by have := mz_f2 (dr := dr) (wk := wk) (sc := sc) hy.1 hy.2.2 (k := 10) (d' := d') (i := c) (by decide) (by decide) (by decide) hy.2.1 hc; rw [if_neg hne] at this; exact this))
theorem my_o30 (hy : wfY M d X) (hd' : d' < 23) (hne : d' ≠ d) {c : Nat} (hc : c < 10) : ∀ f : Int32 → Option ia_R, (ia_ald (my h a M d X dr wk sc) (a + 33) 0 ((10 : Int32) * nI d' + nI c)).bind f = f (fG M 30 (10 * d' + c)) := bs (by
  have e : (pM h a (mz M d X dr wk sc)).2.2 (a + 33) = .inl (0, mwR M d X 30) := put_in 33 (by decide)
  have hlen : (mwR M d X 30).length = 230 := (mz_ln (dr := dr) (wk := wk) (sc := sc) hy.1 hy.2.2 hy.2.1) 30 (by decide)
  show ia_ald (pM h a (mz M d X dr wk sc)) (a + 33) 0 _ = _
  rw [ald_of e, idx_nI (w := 10) (wI := 10) rfl, rdN (by rw [hlen]; omega) (by rw [hlen]; decide)]
  exact congrArg some (by have := mz_f2 (dr := dr) (wk := wk) (sc := sc) hy.1 hy.2.2 (k := 11) (d' := d') (i := c) (by decide) (by decide) (by decide) hy.2.1 hc; rw [if_neg hne] at this; exact this))
end MO
