/-! round: the queue. -/
def nV (vis : Nat → Bool) : Nat → Nat
  | 0 => 0
  | i + 1 => nV vis i + (vis i).toNat
def upB (vis : Nat → Bool) (i : Nat) : Nat → Bool := fun j => if j = i then true else vis j
def upN (f : Nat → Nat) (i v : Nat) : Nat → Nat := fun j => if j = i then v else f j
theorem nV_out {vis : Nat → Bool} {i : Nat} : ∀ p, p ≤ i → nV (upB vis i) p = nV vis p
  | 0, _ => rfl
  | p + 1, h => by
    rw [nV, nV, nV_out p (by omega)]
    unfold upB
    rw [if_neg (by omega)]
theorem nV_in {vis : Nat → Bool} {i : Nat} (hv : vis i = false) : ∀ p, i < p → nV (upB vis i) p = nV vis p + 1
  | 0, h => by omega
  | p + 1, h => by
    rw [nV, nV]
    by_cases c : i = p
    · subst c
      rw [nV_out i (Nat.le_refl _), hv]
      unfold upB
      rw [if_pos rfl]
      rfl
    · rw [nV_in hv p (by omega)]
      unfold upB
      rw [if_neg (fun e => c e.symm)]
      omega
theorem nV_le {vis : Nat → Bool} : ∀ p, nV vis p ≤ p
  | 0 => Nat.le_refl _
  | p + 1 => by
    rw [nV]
    have := nV_le (vis := vis) p
    cases vis p
    · exact Nat.le_succ_of_le this
    · exact Nat.succ_le_succ this
theorem nV_lt {vis : Nat → Bool} {i : Nat} (hv : vis i = false) (p : Nat) (h : i < p) : nV vis p < p := by
  have h1 := nV_in hv p h
  have h2 := nV_le (vis := upB vis i) p
  omega
/-- all that holds while the one at the head is looked at -/
def bfI (B A : Nat → Nat → Prop) (p s : Nat) (vis : Nat → Bool) (dd qf : Nat → Nat) (e hd : Nat) : Prop :=
  (∀ l, l < e → qf l < p ∧ vis (qf l) = true) ∧ (∀ u, u < p → vis u = true → ∃ l, l < e ∧ qf l = u) ∧ vis s = true ∧ e = nV vis p ∧
  (∀ u, u < p → vis u = true → B (dd u) u ∧ ∀ j, j < dd u → ¬ B j u) ∧ (∀ l, l < hd → ∀ v, v < p → A (qf l) v → vis v = true) ∧
  (∀ l m, l ≤ m → m < e → dd (qf l) ≤ dd (qf m)) ∧ (hd < e → ∀ m, m < e → dd (qf m) ≤ dd (qf hd) + 1) ∧ (hd < e → ∀ u, u < p → B (dd (qf hd)) u → vis u = true) ∧ ∀ l, l < e → dd (qf l) ≤ l
section BF
variable {B A : Nat → Nat → Prop} {p s : Nat} {vis : Nat → Bool} {dd qf : Nat → Nat} {e hd : Nat}
theorem bf_0 (hs : s < p) (hB0 : ∀ u, u < p → (B 0 u ↔ u = s)) : bfI B A p s (upB (fun _ => false) s) (fun _ => 0) (fun _ => s) 1 0 := by
  have hn : ∀ k, nV (fun _ => false) k = 0 := fun k => by
    induction k with
    | zero => rfl
    | succ k ih => rw [nV, ih]; rfl
  have v : ∀ u, upB (fun _ => false) s u = true → u = s := fun u h => by
    unfold upB at h
    by_cases c : u = s
    · exact c
    · rw [if_neg c] at h; exact absurd h Bool.false_ne_true
  have vs : upB (fun _ => false) s s = true := by unfold upB; rw [if_pos rfl]
  refine ⟨fun l hl => ⟨hs, vs⟩, fun u hu h => ⟨0, by omega, (v u h).symm⟩, vs, ?_, fun u hu h => ⟨(hB0 u hu).mpr (v u h), fun j hj => absurd hj (Nat.not_lt_zero j)⟩, fun l hl => absurd hl (Nat.not_lt_zero l), fun l m _ _ => Nat.le_refl _, fun _ m _ => Nat.zero_le _, fun _ u hu h => ?_, fun l hl => Nat.zero_le _⟩
  · rw [nV_in rfl p hs, hn]
  · rw [(hB0 u hu).mp h]; exact vs
theorem bf_new (h : bfI B A p s vis dd qf e hd) (hhd : hd < e) (hBs : ∀ k v, v < p → (B (k + 1) v ↔ B k v ∨ ∃ u, u < p ∧ B k u ∧ A u v)) (hBm : ∀ k j u, k ≤ j → B k u → B j u) {i : Nat} (hi : i < p) (hv : vis i = false) (hA : A (qf hd) i) : bfI B A p s (upB vis i) (upN dd i (dd (qf hd) + 1)) (upN qf e i) (e + 1) hd := by
  obtain ⟨h1, h2, h3, h4, h5, h6, h7, h8, h9, h10⟩ := h
  have qne : ∀ l, l < e → upN qf e i l = qf l := fun l hl => by unfold upN; rw [if_neg (by omega)]
  have qe : upN qf e i e = i := by unfold upN; rw [if_pos rfl]
  have vi : upB vis i i = true := by unfold upB; rw [if_pos rfl]
  have vm : ∀ u, vis u = true → upB vis i u = true := fun u hu => by
    unfold upB
    by_cases c : u = i
    · rw [if_pos c]
    · rw [if_neg c]; exact hu
  have vb : ∀ u, upB vis i u = true → u = i ∨ vis u = true := fun u hu => by
    unfold upB at hu
    by_cases c : u = i
    · exact Or.inl c
    · rw [if_neg c] at hu; exact Or.inr hu
  have ni : ∀ u, vis u = true → u ≠ i := fun u hu e => by rw [e, hv] at hu; exact absurd hu (by decide)
  have dn : ∀ u, vis u = true → upN dd i (dd (qf hd) + 1) u = dd u := fun u hu => by unfold upN; rw [if_neg (ni u hu)]
  have di : upN dd i (dd (qf hd) + 1) i = dd (qf hd) + 1 := by unfold upN; rw [if_pos rfl]
  have dq : ∀ l, l < e → upN dd i (dd (qf hd) + 1) (upN qf e i l) = dd (qf l) := fun l hl => by rw [qne l hl, dn _ (h1 l hl).2]
  have de : upN dd i (dd (qf hd) + 1) (upN qf e i e) = dd (qf hd) + 1 := by rw [qe, di]
  refine ⟨fun l hl => ?_, fun u hu hvu => ?_, vm s h3, ?_, fun u hu hvu => ?_, fun l hl v hvp ha => ?_, fun l m hlm hm => ?_, fun _ m hm => ?_, fun _ u hu hb => ?_, fun l hl => ?_⟩
  · by_cases c : l = e
    · subst c; rw [qe]; exact ⟨hi, vi⟩
    · rw [qne l (by omega)]; exact ⟨(h1 l (by omega)).1, vm _ (h1 l (by omega)).2⟩
  · rcases vb u hvu with c | c
    · subst c; exact ⟨e, by omega, qe⟩
    · obtain ⟨l, hl, el⟩ := h2 u hu c
      exact ⟨l, by omega, by rw [qne l hl]; exact el⟩
  · rw [nV_in hv p hi, ← h4]
  · rcases vb u hvu with c | c
    · subst c
      rw [di]
      refine ⟨(hBs _ _ hu).mpr (Or.inr ⟨qf hd, (h1 hd hhd).1, (h5 _ (h1 hd hhd).1 (h1 hd hhd).2).1, hA⟩), fun j hj hb => ?_⟩
      have := h9 hhd u hu (hBm j _ u (by omega) hb)
      rw [hv] at this
      exact absurd this (by decide)
    · rw [dn u c]; exact h5 u hu c
  · rw [qne l (by omega)] at ha
    exact vm v (h6 l hl v hvp ha)
  · by_cases c : m = e
    · subst c
      rw [de]
      by_cases c2 : l = m
      · subst c2; rw [de]; exact Nat.le_refl _
      · rw [dq l (by omega)]; exact h8 hhd l (by omega)
    · rw [dq l (by omega), dq m (by omega)]; exact h7 l m hlm (by omega)
  · rw [dq hd hhd]
    by_cases c : m = e
    · subst c; rw [de]; exact Nat.le_refl _
    · rw [dq m (by omega)]; exact h8 hhd m (by omega)
  · rw [dq hd hhd] at hb
    exact vm u (h9 hhd u hu hb)
  · by_cases c : l = e
    · subst c
      rw [de]
      have := h10 hd hhd
      omega
    · rw [dq l (by omega)]; exact h10 l (by omega)
theorem bf_next (h : bfI B A p s vis dd qf e hd) (hhd : hd < e) (hBs : ∀ k v, v < p → (B (k + 1) v ↔ B k v ∨ ∃ u, u < p ∧ B k u ∧ A u v)) (hall : ∀ v, v < p → A (qf hd) v → vis v = true) : bfI B A p s vis dd qf e (hd + 1) := by
  obtain ⟨h1, h2, h3, h4, h5, h6, h7, h8, h9, h10⟩ := h
  have h6' : ∀ l, l < hd + 1 → ∀ v, v < p → A (qf l) v → vis v = true := fun l hl v hv ha => by
    by_cases c : l = hd
    · subst c; exact hall v hv ha
    · exact h6 l (by omega) v hv ha
  refine ⟨h1, h2, h3, h4, h5, h6', h7, fun hh m hm => ?_, fun hh u hu hb => ?_, h10⟩
  · have a1 := h8 hhd m hm
    have a2 := h7 hd (hd + 1) (by omega) hh
    omega
  · have a2 := h7 hd (hd + 1) (by omega) hh
    have a3 := h8 hhd (hd + 1) hh
    by_cases c : dd (qf (hd + 1)) = dd (qf hd)
    · rw [c] at hb; exact h9 hhd u hu hb
    · have c2 : dd (qf (hd + 1)) = dd (qf hd) + 1 := by omega
      rw [c2] at hb
      rcases (hBs _ u hu).mp hb with hb | ⟨w, hw, hbw, ha⟩
      · exact h9 hhd u hu hb
      · have vw := h9 hhd w hw hbw
        obtain ⟨l, hl, el⟩ := h2 w hw vw
        have dw : dd w ≤ dd (qf hd) := Classical.byContradiction fun z => (h5 w hw vw).2 (dd (qf hd)) (by omega) hbw
        have hlh : l < hd + 1 := Classical.byContradiction fun z => by
          have := h7 (hd + 1) l (by omega) hl
          rw [el] at this
          omega
        rw [← el] at ha
        exact h6' l hlh u hu ha
theorem bf_end (h : bfI B A p s vis dd qf e hd) (hhd : ¬ hd < e) (hB0 : ∀ u, u < p → (B 0 u ↔ u = s)) (hBs : ∀ k v, v < p → (B (k + 1) v ↔ B k v ∨ ∃ u, u < p ∧ B k u ∧ A u v)) : ∀ j u, u < p → B j u → vis u = true
  | 0, u, hu, hb => by rw [(hB0 u hu).mp hb]; exact h.2.2.1
  | j + 1, u, hu, hb => by
    rcases (hBs j u hu).mp hb with hb | ⟨w, hw, hbw, ha⟩
    · exact bf_end h hhd hB0 hBs j u hu hb
    · have vw := bf_end h hhd hB0 hBs j w hw hbw
      obtain ⟨l, hl, el⟩ := h.2.1 w hw vw
      rw [← el] at ha
      exact h.2.2.2.2.2.1 l (by omega) u hu ha
end BF
