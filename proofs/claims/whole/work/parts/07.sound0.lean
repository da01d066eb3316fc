/-! What the machine of part 03 answers, the Java machine answers: the heap's picture, the locals. -/
def ia_tr (xt : Nat → Nat) (base : Nat) : Value → Value
  | .ref k => .ref (base + k)
  | .retAddr j => .ref (xt j)
  | v => v
def ia_ty (tag : Nat) : FieldType := match tag with
  | 0 => .int
  | 1 => .byte
  | 2 => .boolean
  | _ => .long
theorem ia_tr_cat (xt : Nat → Nat) (base : Nat) (v : Value) : v ≠ .retAddr 0 → (ia_tr xt base v).category = v.category := by
  intro _
  cases v <;> rfl
/-- a cell of mine as the heap holds it -/
def ia_at (D : va_G) (cA : Nat → ClassId) (xt : Nat → Nat) (base k : Nat) (e : ia_E) (H : Heap) : Prop := match e with
  | .inl (tg, l) => tg < 3 ∧ H[base + k]? = some (arrV (cA tg) l.length (fun j => .int (l.getD j 0)))
  | .inr (.inl l) => H[base + k]? = some (arrV (cA 3) l.length (fun j => .long (l.getD j 0)))
  | .inr (.inr (ci, fs)) => ∀ r : vw_C, ia_cl[ci]? = some r → t_OB (base + k) (D.1 ci) r.2.2 (D.2 ci) H (vp_V (fs.map (ia_tr xt base)))
def ia_rep (D : va_G) (cA : Nat → ClassId) (xt : Nat → Nat) (base : Nat) (h : ia_H) (H : Heap) : Prop :=
  H.size = base + h.1 ∧ (∀ k, k < h.1 → ia_at D cA xt base k (h.2.2 k) H) ∧ ∀ k, h.1 ≤ k → h.2.2 k = ia_dead
def ia_KK (D : va_G) (cA : Nat → ClassId) (s : State) : Prop := (∀ (c : Nat) (q : vw_C), ia_cl[c]? = some q → u_Kn s q.1 q.2.1 q.2.2 (D.1 c) (D.2 c)) ∧
  ∀ tg, tg < 4 → ArrOfT s (cA tg) (ia_ty tg) ∧ s.vm.findClass ("[" ++ (ia_ty tg).toString) = some (cA tg)
theorem ia_KK.moved {D : va_G} {cA : Nat → ClassId} {u U : State} (hvm : u.vm.Alike U.vm) (h : ia_KK D cA u) : ia_KK D cA U :=
  ⟨fun c q hq => u_Kn_moved hvm (h.1 c q hq), fun tg ht => ⟨arrOfT_moved hvm (h.2 tg ht).1, by rw [hvm.findClass]; exact (h.2 tg ht).2⟩⟩
theorem ia_arrV_ext {c : ClassId} {n : Nat} {f g : Nat → Value} (h : ∀ j, j < n → f j = g j) : arrV c n f = arrV c n g := by
  unfold arrV
  congr 1
  congr 1
  funext j
  exact h j.val j.isLt
section IAR
variable {D : va_G} {cA : Nat → ClassId} {xt : Nat → Nat} {base : Nat} {h : ia_H} {H H' : Heap} {a : Nat}
theorem ia_at.kept {k : Nat} {e : ia_E} (h1 : ia_at D cA xt base k e H) (hq : H'[base + k]? = H[base + k]?) : ia_at D cA xt base k e H' := by
  rcases e with ⟨tg, l⟩ | l | ⟨ci, fs⟩
  · exact ⟨h1.1, by rw [hq]; exact h1.2⟩
  · show H'[base + k]? = _
    rw [hq]; exact h1
  · intro r hr
    exact (h1 r hr).kept hq
theorem ia_rep.lt1 (hr : ia_rep D cA xt base h H) {x : Nat × List Int32} (he : h.2.2 a = .inl x) : a < h.1 := by
  rcases Nat.lt_or_ge a h.1 with q | q
  · exact q
  · rw [hr.2.2 a q] at he; cases he
theorem ia_rep.lt2 (hr : ia_rep D cA xt base h H) {x : List Int64} (he : h.2.2 a = .inr (.inl x)) : a < h.1 := by
  rcases Nat.lt_or_ge a h.1 with q | q
  · exact q
  · rw [hr.2.2 a q] at he; cases he
theorem ia_rep.lt3 (hr : ia_rep D cA xt base h H) {ci : Nat} {fs : List Value} (he : h.2.2 a = .inr (.inr (ci, fs))) {q : vw_C} (hc : ia_cl[ci]? = some q) : a < h.1 := by
  rcases Nat.lt_or_ge a h.1 with q | q
  · exact q
  · rw [hr.2.2 a q] at he
    cases he
    cases hc
theorem ia_rep.set (hr : ia_rep D cA xt base h H) (ha : a < h.1) {e' : ia_E} (hz : H'.size = H.size) (ho : ∀ q, q ≠ base + a → H'[q]? = H[q]?) (hat : ia_at D cA xt base a e' H') : ia_rep D cA xt base (ia_up h a e') H' := by
  refine ⟨by rw [hz]; exact hr.1, fun k hk => ?_, fun k hk => ?_⟩
  · show ia_at D cA xt base k (va_up h.2.2 a e' k) H'
    by_cases hka : k = a
    · subst hka
      simp only [va_up, if_true]
      exact hat
    · simp only [va_up, hka, if_false]
      exact (hr.2.1 k hk).kept (ho _ (by omega))
  · show va_up h.2.2 a e' k = ia_dead
    have hk' : h.1 ≤ k := hk
    simp only [va_up, show ¬ k = a by omega, if_false]
    exact hr.2.2 k hk
theorem ia_rep.push (hr : ia_rep D cA xt base h H) {n : Nat} {e' : ia_E} (hz : H'.size = H.size + 1) (ho : ∀ q, q < H.size → H'[q]? = H[q]?) (hat : ia_at D cA xt base h.1 e' H') : ia_rep D cA xt base (ia_new h n e') H' := by
  refine ⟨by rw [hz, hr.1]; rfl, fun k hk => ?_, fun k hk => ?_⟩
  · show ia_at D cA xt base k (va_up h.2.2 h.1 e' k) H'
    have hk2 : k < h.1 + 1 := hk
    by_cases hka : k = h.1
    · subst hka
      simp only [va_up, if_true]
      exact hat
    · simp only [va_up, hka, if_false]
      exact (hr.2.1 k (by omega)).kept (ho _ (by rw [hr.1]; omega))
  · show va_up h.2.2 h.1 e' k = ia_dead
    have hk2 : h.1 + 1 ≤ k := hk
    simp only [va_up, show ¬ k = h.1 by omega, if_false]
    exact hr.2.2 k (by omega)
end IAR
/-- locals: what isn't junk stands in its slot -/
def ia_lr (T : Value → Value) (sl : Array Slot) (ls : List Value) : Prop := sl.size = ls.length ∧ lv_wf sl ∧ ∀ (i : Nat) (v : Value), ls[i]? = some v → v ≠ .float 0 → sl[i]? = some (.val (T v))
def ia_lp (T : Value → Value) (ls : List Value) : List (Nat × Value) := (List.range ls.length).filterMap fun i => match ls[i]? with
  | some v => if v = .float 0 then none else some (i, T v)
  | none => none
theorem ia_lp_mem {T : Value → Value} {ls : List Value} {i : Nat} {v : Value} (h : ls[i]? = some v) (hv : v ≠ .float 0) : (i, T v) ∈ ia_lp T ls := by
  refine List.mem_filterMap.mpr ⟨i, List.mem_range.mpr (List.getElem?_eq_some_iff.mp h).1, ?_⟩
  simp [h, hv]
theorem ia_lp_of {T : Value → Value} {ls : List Value} {q : Nat × Value} (h : q ∈ ia_lp T ls) : ∃ v, ls[q.1]? = some v ∧ v ≠ .float 0 ∧ q.2 = T v := by
  obtain ⟨i, -, hi⟩ := List.mem_filterMap.mp h
  cases hv : ls[i]? with
  | none => simp [hv] at hi
  | some v =>
    simp only [hv] at hi
    split at hi
    · cases hi
    · rename_i hne
      cases hi
      exact ⟨v, hv, hne, rfl⟩
theorem ia_lr.has {T : Value → Value} {sl : Array Slot} {ls : List Value} (h : ia_lr T sl ls) : lv_has sl ls.length (ia_lp T ls) :=
  ⟨h.1, h.2.1, fun q hq => by
    obtain ⟨v, h1, h2, h3⟩ := ia_lp_of hq
    rw [h3]
    exact h.2.2 q.1 v h1 h2⟩
theorem ia_lr.of {T : Value → Value} {sl : Array Slot} {ls : List Value} {n : Nat} {l : List (Nat × Value)} (h : lv_has sl n l) (hn : ls.length = n) (hm : ∀ (i : Nat) (v : Value), ls[i]? = some v → v ≠ .float 0 → (i, T v) ∈ l) : ia_lr T sl ls :=
  ⟨h.1.trans hn.symm, h.2.1, fun i v h1 h2 => h.2.2 _ (hm i v h1 h2)⟩
theorem ia_lr.store {xt : Nat → Nat} {base : Nat} {sl : Array Slot} {ls : List Value} {i : Nat} {v : Value} (hi : i < ls.length) (hp : ∀ x, ls[i - 1]? ≠ some (.long x)) (hp2 : ∀ x, ls[i - 1]? ≠ some (.double x))
    (h : lv_has sl ls.length ((i, ia_tr xt base v) :: (ia_lp (ia_tr xt base) ls).filter (fun q => !(q.1 == i) && !(q.1 + 1 == i && q.2.category == 2)))) : ia_lr (ia_tr xt base) sl (ls.set i v) := by
  refine ia_lr.of h (by simp) fun j w hj hw => ?_
  by_cases hji : j = i
  · subst hji
    rw [List.getElem?_set_self hi] at hj
    cases hj
    exact List.mem_cons_self
  · rw [List.getElem?_set_ne (fun q => hji q.symm)] at hj
    refine List.mem_cons_of_mem _ (List.mem_filter.mpr ⟨ia_lp_mem hj hw, ?_⟩)
    have h1 : (j == i) = false := by simpa using hji
    simp only [h1, Bool.not_false, Bool.true_and, Bool.not_eq_true', Bool.and_eq_false_imp, beq_iff_eq]
    intro h2
    have h3 : j = i - 1 := by omega
    rw [h3] at hj
    cases w with
    | long x => exact absurd hj (hp x)
    | double x => exact absurd hj (hp2 x)
    | _ => rfl
theorem ia_lr.storeL {xt : Nat → Nat} {base : Nat} {sl : Array Slot} {ls : List Value} {i : Nat} {v : Value} (hi : i + 1 < ls.length) (hp : ∀ x, ls[i - 1]? ≠ some (.long x)) (hp2 : ∀ x, ls[i - 1]? ≠ some (.double x))
    (h : lv_has sl ls.length ((i, ia_tr xt base v) :: (ia_lp (ia_tr xt base) ls).filter (fun q => !(q.1 == i) && (!(q.1 == i + 1) && !(q.1 + 1 == i && q.2.category == 2))))) : ia_lr (ia_tr xt base) sl ((ls.set i v).set (i + 1) (.float 0)) := by
  refine ia_lr.of h (by simp) fun j w hj hw => ?_
  by_cases hji1 : j = i + 1
  · subst hji1
    rw [List.getElem?_set_self (by simpa using hi)] at hj
    cases hj
    exact absurd rfl hw
  · rw [List.getElem?_set_ne (fun q => hji1 q.symm)] at hj
    by_cases hji : j = i
    · subst hji
      rw [List.getElem?_set_self (by omega)] at hj
      cases hj
      exact List.mem_cons_self
    · rw [List.getElem?_set_ne (fun q => hji q.symm)] at hj
      refine List.mem_cons_of_mem _ (List.mem_filter.mpr ⟨ia_lp_mem hj hw, ?_⟩)
      have h1 : (j == i) = false := by simpa using hji
      have h2 : (j == i + 1) = false := by simpa using hji1
      simp only [h1, h2, Bool.not_false, Bool.true_and, Bool.not_eq_true', Bool.and_eq_false_imp, beq_iff_eq]
      intro h2
      have h3 : j = i - 1 := by omega
      rw [h3] at hj
      cases w with
      | long x => exact absurd hj (hp x)
      | double x => exact absurd hj (hp2 x)
      | _ => rfl
theorem ia_lr.kill {T : Value → Value} {sl : Array Slot} (kl : List Nat) : ∀ {ls : List Value}, ia_lr T sl ls → ia_lr T sl (ia_kill kl ls) := by
  induction kl with
  | nil => exact fun h => h
  | cons i r ih =>
    intro ls h
    refine ih ⟨by simpa using h.1, h.2.1, fun j v hj hv => ?_⟩
    by_cases hji : i = j
    · subst hji
      have hl : i < ls.length := by
        have := (List.getElem?_eq_some_iff.mp hj).1
        simpa using this
      rw [List.getElem?_set_self hl] at hj
      cases hj
      exact absurd rfl hv
    · rw [List.getElem?_set_ne hji] at hj
      exact h.2.2 j v hj hv
theorem ia_loc_mem {xt : Nat → Nat} {base : Nat} : ∀ (as : List Value) (n o : Nat) (i : Nat) (v : Value), (ia_loc n as)[i]? = some v → v ≠ .float 0 → (o + i, ia_tr xt base v) ∈ lv_args o (as.map (ia_tr xt base)) := by
  intro as
  induction as with
  | nil =>
    intro n o i v h hv
    have h1 : v = .float 0 := List.eq_of_mem_replicate (List.mem_of_getElem? (show (List.replicate n (Value.float 0))[i]? = some v from h))
    exact absurd h1 hv
  | cons w r ih =>
    intro n o i v h hv
    have two : ∀ w : Value, w.category = 2 → (w :: Value.float 0 :: ia_loc (n - 2) r)[i]? = some v → (o + i, ia_tr xt base v) ∈ (o, ia_tr xt base w) :: lv_args (o + 2) (r.map (ia_tr xt base)) := by
      intro w _ h'
      match i, h' with
      | 0, h' => cases h'; exact List.mem_cons_self
      | 1, h' => cases h'; exact absurd rfl hv
      | i + 2, h' =>
        have h2 := ih (n - 2) (o + 2) i v h' hv
        refine List.mem_cons_of_mem _ ?_
        have e : o + (i + 2) = o + 2 + i := by omega
        rw [e]
        exact h2
    have one : ∀ w : Value, (w :: ia_loc (n - 1) r)[i]? = some v → (o + i, ia_tr xt base v) ∈ (o, ia_tr xt base w) :: lv_args (o + 1) (r.map (ia_tr xt base)) := by
      intro w h'
      match i, h' with
      | 0, h' => cases h'; exact List.mem_cons_self
      | i + 1, h' =>
        have h2 := ih (n - 1) (o + 1) i v h' hv
        refine List.mem_cons_of_mem _ ?_
        have e : o + (i + 1) = o + 1 + i := by omega
        rw [e]
        exact h2
    cases w with
    | long x => exact two _ rfl h
    | double x => exact two _ rfl h
    | _ => exact one _ h
theorem ia_loc_len : ∀ (as : List Value) (n : Nat) (T : Value → Value), (∀ v, (T v).category = v.category) → (ia_loc n as).length = n → (lg_sl (as.map T)).length ≤ n := by
  have key : ∀ (as : List Value) (n : Nat) (T : Value → Value), (∀ v, (T v).category = v.category) → (lg_sl (as.map T)).length ≤ (ia_loc n as).length := by
    intro as
    induction as with
    | nil => intro n T _; simp [lg_sl]
    | cons w r ih =>
      intro n T hT
      have e : (lg_sl ((w :: r).map T)).length = (if w.category = 2 then 2 else 1) + (lg_sl (r.map T)).length := by
        simp only [lg_sl, List.map_cons, List.flatMap_cons, List.length_append, hT]
        split <;> rfl
      rw [e]
      have h1 := ih (n - 1) T hT
      have h2 := ih (n - 2) T hT
      cases w with
      | long x => show 2 + _ ≤ (ia_loc (n - 2) r).length + 1 + 1; omega
      | double x => show 2 + _ ≤ (ia_loc (n - 2) r).length + 1 + 1; omega
      | _ => show 1 + _ ≤ (ia_loc (n - 1) r).length + 1; omega
  intro as n T hT h
  have := key as n T hT
  omega
theorem ia_tr_cat2 (xt : Nat → Nat) (base : Nat) (v : Value) : (ia_tr xt base v).category = v.category := by
  cases v <;> rfl
/-- a method's locals at its start -/
theorem ia_lr.entry {xt : Nat → Nat} {base n : Nat} {as : List Value} (h : (ia_loc n as).length = n) :
    ia_lr (ia_tr xt base) ((lg_sl (as.map (ia_tr xt base)) ++ List.replicate (n - (lg_sl (as.map (ia_tr xt base))).length) Slot.unset).toArray) (ia_loc n as) := by
  refine ia_lr.of (lv_entry (as.map (ia_tr xt base)) (n := n) (ia_loc_len as n _ (ia_tr_cat2 xt base) h)) h fun i v hi hv => ?_
  have := ia_loc_mem (xt := xt) (base := base) as n 0 i v hi hv
  rwa [Nat.zero_add] at this
