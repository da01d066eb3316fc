/-! The shapes of stacks behind an answer. -/
theorem ia_ii_s {st : List Value} {k : Int32 → Int32 → List Value → Option ia_R} {r : ia_R} (h : ia_ii st k = some r) : ∃ x y s, st = .int y :: .int x :: s ∧ k x y s = some r := by
  unfold ia_ii at h
  split at h
  · exact ⟨_, _, _, rfl, h⟩
  · cases h
theorem ia_ll_s {st : List Value} {k : Int64 → Int64 → List Value → Option ia_R} {r : ia_R} (h : ia_ll st k = some r) : ∃ x y s, st = .long y :: .long x :: s ∧ k x y s = some r := by
  unfold ia_ll at h
  split at h
  · exact ⟨_, _, _, rfl, h⟩
  · cases h
theorem ia_i1_s {st : List Value} {k : Int32 → List Value → Option ia_R} {r : ia_R} (h : ia_i1 st k = some r) : ∃ x s, st = .int x :: s ∧ k x s = some r := by
  unfold ia_i1 at h
  split at h
  · exact ⟨_, _, rfl, h⟩
  · cases h
theorem ia_l1_s {st : List Value} {k : Int64 → List Value → Option ia_R} {r : ia_R} (h : ia_l1 st k = some r) : ∃ x s, st = .long x :: s ∧ k x s = some r := by
  unfold ia_l1 at h
  split at h
  · exact ⟨_, _, rfl, h⟩
  · cases h
theorem ia_load_s {ls : List Value} {i : Nat} {k : Value → Option ia_R} {r : ia_R} (h : ia_load ls i k = some r) : ∃ v, ls[i]? = some v ∧ k v = some r := by
  unfold ia_load at h
  split at h
  · exact ⟨_, by assumption, h⟩
  · cases h
theorem ia_store_s {ls : List Value} {i : Nat} {v : Value} {k : List Value → Option ia_R} {r : ia_R} (h : ia_store ls i v k = some r) : i < ls.length ∧ (∀ x, ls[i - 1]? ≠ some (.long x)) ∧ (∀ x, ls[i - 1]? ≠ some (.double x)) ∧ k (ls.set i v) = some r := by
  unfold ia_store at h
  split at h
  · cases h
  · rename_i w hw
    split at h
    · cases h
    · cases h
    · rename_i h1 h2
      exact ⟨(List.getElem?_eq_some_iff.mp hw).1, h1, h2, h⟩
theorem ia_storeL_s {ls : List Value} {i : Nat} {v : Value} {k : List Value → Option ia_R} {r : ia_R} (h : ia_storeL ls i v k = some r) : i + 1 < ls.length ∧ (∀ x, ls[i - 1]? ≠ some (.long x)) ∧ (∀ x, ls[i - 1]? ≠ some (.double x)) ∧ k ((ls.set i v).set (i + 1) (.float 0)) = some r := by
  unfold ia_storeL at h
  split at h
  · cases h
  · rename_i w hw
    split at h
    · cases h
    · cases h
    · rename_i h1 h2
      exact ⟨(List.getElem?_eq_some_iff.mp hw).1, h1, h2, h⟩
theorem ia_getI_s {h : ia_H} {a ci k : Nat} {x : Int32} (e : ia_getI h a ci k = some x) : ∃ fs, h.2.2 a = .inr (.inr (ci, fs)) ∧ fs[k]? = some (.int x) := by
  unfold ia_getI at e
  split at e
  · rename_i c fs hc
    split at e
    · rename_i hcc
      subst hcc
      split at e
      · cases e
        exact ⟨fs, hc, by assumption⟩
      · cases e
    · cases e
  · cases e
theorem ia_getR_s {h : ia_H} {a ci k : Nat} {x : Nat} (e : ia_getR h a ci k = some x) : ∃ fs, h.2.2 a = .inr (.inr (ci, fs)) ∧ fs[k]? = some (.ref x) := by
  unfold ia_getR at e
  split at e
  · rename_i c fs hc
    split at e
    · rename_i hcc
      subst hcc
      split at e
      · cases e
        exact ⟨fs, hc, by assumption⟩
      · cases e
    · cases e
  · cases e
theorem ia_getL_s {h : ia_H} {a ci k : Nat} {x : Int64} (e : ia_getL h a ci k = some x) : ∃ fs, h.2.2 a = .inr (.inr (ci, fs)) ∧ fs[k]? = some (.long x) := by
  unfold ia_getL at e
  split at e
  · rename_i c fs hc
    split at e
    · rename_i hcc
      subst hcc
      split at e
      · cases e
        exact ⟨fs, hc, by assumption⟩
      · cases e
    · cases e
  · cases e
theorem ia_putf_s {h h' : ia_H} {a ci k : Nat} {v : Value} (e : ia_putf h a ci k v = some h') : ∃ fs, h.2.2 a = .inr (.inr (ci, fs)) ∧ k < fs.length ∧ h' = ia_up h a (.inr (.inr (ci, fs.set k v))) := by
  unfold ia_putf at e
  split at e
  · rename_i c fs hc
    split at e
    · rename_i hcc
      subst hcc
      split at e
      · rename_i hk
        cases e
        exact ⟨fs, hc, hk, rfl⟩
      · cases e
    · cases e
  · cases e
theorem ia_ald_s {h : ia_H} {a tag : Nat} {i x : Int32} (e : ia_ald h a tag i = some x) : ∃ l, h.2.2 a = .inl (tag, l) ∧ ¬ i < 0 ∧ l[i.toNatClampNeg]? = some x := by
  unfold ia_ald at e
  split at e
  · rename_i tg l hc
    split at e
    · rename_i hcc
      subst hcc
      split at e
      · cases e
      · rename_i hi
        exact ⟨l, hc, hi, e⟩
    · cases e
  · cases e
theorem ia_ast_s {h h' : ia_H} {a tag : Nat} {i x : Int32} (e : ia_ast h a tag i x = some h') : ∃ l, h.2.2 a = .inl (tag, l) ∧ ¬ i < 0 ∧ i.toNatClampNeg < l.length ∧ h' = ia_up h a (.inl (tag, l.set i.toNatClampNeg x)) := by
  unfold ia_ast at e
  split at e
  · rename_i tg l hc
    split at e
    · rename_i hcc
      subst hcc
      split at e
      · cases e
      · rename_i hi
        split at e
        · rename_i hl
          cases e
          exact ⟨l, hc, hi, hl, rfl⟩
        · cases e
    · cases e
  · cases e
theorem ia_lald_s {h : ia_H} {a : Nat} {i : Int32} {x : Int64} (e : ia_lald h a i = some x) : ∃ l, h.2.2 a = .inr (.inl l) ∧ ¬ i < 0 ∧ l[i.toNatClampNeg]? = some x := by
  unfold ia_lald at e
  split at e
  · rename_i l hc
    split at e
    · cases e
    · rename_i hi
      exact ⟨l, hc, hi, e⟩
  · cases e
theorem ia_last_s {h h' : ia_H} {a : Nat} {i : Int32} {x : Int64} (e : ia_last h a i x = some h') : ∃ l, h.2.2 a = .inr (.inl l) ∧ ¬ i < 0 ∧ i.toNatClampNeg < l.length ∧ h' = ia_up h a (.inr (.inl (l.set i.toNatClampNeg x))) := by
  unfold ia_last at e
  split at e
  · rename_i l hc
    split at e
    · cases e
    · rename_i hi
      split at e
      · rename_i hl
        cases e
        exact ⟨l, hc, hi, hl, rfl⟩
      · cases e
  · cases e
theorem ia_cpy_s {h h' : ia_H} {a b : Nat} {sp dp n : Int32} (e : ia_cpy h a sp b dp n = some h') : ∃ l g, h.2.2 a = .inl (0, l) ∧ h.2.2 b = .inl (0, g) ∧ ¬ sp < 0 ∧ ¬ dp < 0 ∧ ¬ n < 0 ∧ sp.toNatClampNeg + n.toNatClampNeg ≤ l.length ∧ dp.toNatClampNeg + n.toNatClampNeg ≤ g.length ∧
    h' = ia_up h b (.inl (0, g.take dp.toNatClampNeg ++ ((l.drop sp.toNatClampNeg).take n.toNatClampNeg ++ g.drop (dp.toNatClampNeg + n.toNatClampNeg)))) := by
  unfold ia_cpy at e
  split at e
  · rename_i l g h1 h2
    split at e
    · cases e
    · rename_i hn
      split at e
      · rename_i hl
        cases e
        exact ⟨l, g, h1, h2, fun q => hn (Or.inl q), fun q => hn (Or.inr (Or.inl q)), fun q => hn (Or.inr (Or.inr q)), hl.1, hl.2, rfl⟩
      · cases e
  · cases e
theorem ia_bind_s {α : Type} {o : Option α} {k : α → Option ia_R} {r : ia_R} (h : o.bind k = some r) : ∃ x, o = some x ∧ k x = some r := by
  cases o with
  | none => cases h
  | some x => exact ⟨x, rfl, h⟩
theorem ia_ret_s {kind : Nat} {o : Option ia_R} {k : List Value → ia_H → Option ia_R} {r : ia_R} (h : ia_ret kind o k = some r) : ∃ q, o = some q ∧ k q.1.toList q.2 = some r := by
  unfold ia_ret at h
  split at h
  · unfold ia_cV at h
    split at h
    · exact ⟨_, rfl, h⟩
    · cases h
  · unfold ia_cI at h
    split at h
    · exact ⟨_, rfl, h⟩
    · cases h
  · unfold ia_cL at h
    split at h
    · exact ⟨_, rfl, h⟩
    · cases h
  · unfold ia_cR at h
    split at h
    · exact ⟨_, rfl, h⟩
    · cases h
theorem ia_if_s {c : ClassFile.Cond} {x y : Int32} {yes no : Option ia_R} {r : ia_R} (h : ia_if c x y yes no = some r) :
    match c with
      | .eq => (x = y ∧ yes = some r) ∨ (¬ x = y ∧ no = some r)
      | .ne => (¬ x = y ∧ yes = some r) ∨ (x = y ∧ no = some r)
      | .lt => (x < y ∧ yes = some r) ∨ (¬ x < y ∧ no = some r)
      | .ge => (¬ x < y ∧ yes = some r) ∨ (x < y ∧ no = some r)
      | .gt => (y < x ∧ yes = some r) ∨ (¬ y < x ∧ no = some r)
      | .le => (¬ y < x ∧ yes = some r) ∨ (y < x ∧ no = some r) := by
  unfold ia_if at h
  cases c <;> (simp only at h ⊢; split at h <;> rename_i q <;> first | exact Or.inl ⟨q, h⟩ | exact Or.inr ⟨q, h⟩)
theorem ia_cats_sum (xt : Nat → Nat) (base : Nat) : ∀ st : List Value, ((st.map (ia_tr xt base)).map fun v => v.category).sum = ia_cats st
  | [] => rfl
  | v :: r => by
    show (ia_tr xt base v).category + ((r.map (ia_tr xt base)).map fun v => v.category).sum = v.category + ia_cats r
    rw [ia_cats_sum xt base r, ia_tr_cat2]
theorem ia_cls_s {h : ia_H} {a ci : Nat} (hc : ci < 9999) (e : ia_cls h a = ci) : ∃ fs, h.2.2 a = .inr (.inr (ci, fs)) := by
  unfold ia_cls at e
  split at e
  · rename_i c fs hq
    subst e
    exact ⟨fs, hq⟩
  · omega
theorem ia_pops_s : ∀ (n : Nat) (acc st as rest : List Value), ia_pops n acc st = some (as, rest) → as.reverse ++ rest = acc.reverse ++ st ∧ as.length = n + acc.length
  | 0, acc, st, as, rest, h => by
    cases h
    exact ⟨rfl, by omega⟩
  | n + 1, acc, [], as, rest, h => by cases h
  | n + 1, acc, v :: st, as, rest, h => by
    obtain ⟨h1, h2⟩ := ia_pops_s n (v :: acc) st as rest h
    refine ⟨?_, ?_⟩
    · rw [h1]
      simp
    · rw [h2]
      simp only [List.length_cons]
      omega
theorem ia_pops_0 {n : Nat} {st as rest : List Value} (h : ia_pops n [] st = some (as, rest)) : st = as.reverse ++ rest ∧ as.length = n := by
  obtain ⟨h1, h2⟩ := ia_pops_s n [] st as rest h
  exact ⟨h1.symm, h2⟩
