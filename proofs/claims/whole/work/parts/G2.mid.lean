/-! text: a line in class and reference: what must be kept. -/
/-- the class's reader touched nothing else -/
def frD (D : aC) (σ : Bool) (D1 : aC) : Prop := (∀ k, k ≠ 3 → k ≠ 6 → k ≠ 7 → k ≠ kS (!σ) → k ≠ kL (!σ) → D1.1 k = D.1 k) ∧ (∀ k, k ≠ kF (!σ) → D1.2 k = D.2 k) ∧ (D1.1 3).2 = (D.1 3).2 ∧ (D1.1 6).2 = (D.1 6).2 ∧ (D1.1 6).1 3 = (D.1 6).1 3 ∧ (D1.1 (kS (!σ))).2.2.2.2 = (D.1 (kS (!σ))).2.2.2.2 ∧ ((D1.1 7).2.1 0).length = 72 ∧ (D1.1 3).1 2 = (D.1 3).1 2
/-- what holds of the spare script whatever was read into it -/
def jkD (σ : Bool) (D : aC) : Prop := (∀ k, k < 4 → ((D.1 (kS (!σ))).2.1 k).length = 6) ∧ wfL (D.1 (kL (!σ))) ∧ lnX (D.2 (kF (!σ))) ∧ (∀ i, pcX (D.2 (kF (!σ))) i) ∧ ∀ i, vpS (D.1 (kS (!σ))) i
def LnS (x : Nat) (D : aC) (σ : Bool) (M : aG) (by_ : Nat → Nat) (T i p n t r kn : Nat) : Prop := cB x D σ M by_ T ∧ bM (D.1 0) M by_ T ∧ D.1 6 = tkA (D.1 6) by_ T i ∧ stM M by_ T (.inr i) ∧ hR (D.1 (kS (!σ))) (D.1 (kL (!σ))) (D.2 (kF (!σ))) M p n t r kn ∧ ((D.1 7).2.1 0).length = 72
def FD (D : aC) (σ : Bool) (k pl : Nat) (D1 : aC) : Prop := frD D σ D1 ∧ jkD σ D1 ∧ (D1.1 3).1 0 = nI k ∧ (D1.1 3).1 1 = nI pl
def MI (x : Nat) (D : aC) (σ : Bool) (M : aG) (by_ : Nat → Nat) (T i : Nat) (r : Int32) (D1 : aC) (M1 : aG) : Prop :=
  (r = 0 ∧ ∃ k pl, 1 ≤ k ∧ k ≤ 5 ∧ FD D σ k pl D1 ∧ rsc M M1 ∧ bM (D.1 0) M1 by_ T ∧ (stM M1 by_ T (.inl (k, pl)) ∨ ∃ j, stM M1 by_ T (.inr j) ∧ tkK by_ T j ≠ 25 ∧ k = 1 ∧ pl = tkP by_ T j)) ∨
  (r = 1 ∧ ∃ j p n t q kn, i < j ∧ LnS x D1 σ M1 by_ T j p n t q kn ∧ rsc M M1 ∧ M1.1 3 = M.1 3 ∧ frD D σ D1 ∧ (D1.1 3).1 0 = (D.1 3).1 0 ∧ (D1.1 3).1 1 = (D.1 3).1 1)
section GX2
variable {x : Nat} {D : aC} {σ : Bool} {M : aG} {by_ : Nat → Nat} {T i p n t r kn : Nat}
theorem hR.jk {S L : aG} {F : aW} (h : hR S L F M p n t r kn) : (∀ k, k < 4 → (S.2.1 k).length = 6) ∧ wfL L ∧ lnX F ∧ (∀ i, pcX F i) ∧ ∀ i, vpS S i := by
  obtain ⟨⟨⟨-, -, -, -, l0, l1, l2, l3⟩, hw, hf, -, -, -, h1, h2⟩, -⟩ := h
  refine ⟨fun k hk => ?_, hw, ⟨hf.2.2.2.2.1, hf.2.2.2.2.2.1, hf.2.2.2.2.2.2⟩, h1, h2⟩
  match k, hk with
  | 0, _ => exact l0
  | 1, _ => exact l1
  | 2, _ => exact l2
  | 3, _ => exact l3
theorem LnS.kk (h : LnS x D σ M by_ T i p n t r kn) : k4 D (!σ) (tkA (D.1 6) by_ T i) (D.1 3) (D.1 7) (D.1 (kL (!σ))) = D := by
  rw [← h.2.2.1, k4_id]
theorem frD_k4 {A B E L : aG} (hA : A.2 = (D.1 6).2) (hA3 : A.1 3 = (D.1 6).1 3) (hB : B.2 = (D.1 3).2) (hB2 : B.1 2 = (D.1 3).1 2) (hE : (E.2.1 0).length = 72) : frD D σ (k4 D (!σ) A B E L) := by
  refine ⟨fun k h3 h6 h7 hS hL => k4_n h6 h3 h7 hL, fun k _ => rfl, hB, hA, hA3, ?_, hE, hB2⟩
  rw [k4_S]
theorem FD_of (h : LnS x D σ M by_ T i p n t r kn) {j k pl : Nat} : FD D σ k pl (k4 D (!σ) (tkA (D.1 6) by_ T j) (fB (D.1 3) k pl) (D.1 7) (D.1 (kL (!σ)))) := by
  refine ⟨frD_k4 rfl rfl rfl rfl h.2.2.2.2.2, ?_, rfl, rfl⟩
  have hj := h.2.2.2.2.1.jk
  unfold jkD
  rw [k4_S, k4_L]
  exact hj
theorem frD.tr {D1 D2 : aC} (h : frD D σ D1) (h' : frD D1 σ D2) : frD D σ D2 := by
  obtain ⟨a1, a2, a3, a4, a5, a6, a7, a8⟩ := h
  obtain ⟨b1, b2, b3, b4, b5, b6, b7, b8⟩ := h'
  exact ⟨fun k h3 h6 h7 hS hL => (b1 k h3 h6 h7 hS hL).trans (a1 k h3 h6 h7 hS hL), fun k hk => (b2 k hk).trans (a2 k hk), b3.trans a3, b4.trans a4, b5.trans a5, b6.trans a6, b7, b8.trans a8⟩
theorem frD.c {D1 : aC} {M1 : aG} (h : frD D σ D1) (hc : cB x D σ M by_ T) (hb : txB (D.1 0) M1 by_ T) : cB x D1 σ M1 by_ T := by
  obtain ⟨a1, a2, a3, a4, a5, a6, a7, a8⟩ := h
  obtain ⟨⟨f1, f2, f3, f4⟩, c2, c3, c4, c5⟩ := hc
  have n := kS_n (ρ := !σ) (τ := !σ)
  have nL := kL_n (τ := !σ)
  have e0 : D1.1 0 = D.1 0 := a1 0 (by decide) (by decide) (by decide) (Ne.symm n.2.2.2.1) (Ne.symm nL.2.2.2)
  have e11 : D1.1 11 = D.1 11 := a1 11 (by decide) (by decide) (by decide) (Ne.symm n.2.2.2.2.1) (by cases σ <;> decide)
  refine ⟨⟨by rw [e0]; exact f1, by rw [a3]; exact f2, by rw [e11]; exact f3, fun ρ => ?_⟩, by rw [e0]; exact hb, a5.trans c3, by rw [a4]; exact c4, by rw [a4]; exact c5⟩
  have f4' := f4 ρ
  by_cases c : ρ = !σ
  · rw [c, a6]
    rw [c] at f4'
    exact f4'
  · have : kS ρ ≠ kS (!σ) := by
      revert c
      cases ρ <;> cases σ <;> decide
    have e : D1.1 (kS ρ) = D.1 (kS ρ) := a1 (kS ρ) (kS_n (ρ := ρ) (τ := !σ)).2.1 (kS_n (ρ := ρ) (τ := !σ)).1 (kS_n (ρ := ρ) (τ := !σ)).2.2.1 this (kS_n (ρ := ρ) (τ := !σ)).2.2.2.2.2
    rw [e]
    exact f4'
theorem frD.bb {D1 : aC} (h : frD D σ D1) : D1.1 0 = D.1 0 := h.1 0 (by decide) (by decide) (by decide) (Ne.symm (kS_n (ρ := !σ) (τ := !σ)).2.2.2.1) (Ne.symm (kL_n (τ := !σ)).2.2.2)
/-- a class fault at a place where the reference has it -/
theorem MI_bad (h : LnS x D σ M by_ T i p n t r kn) {j k pl : Nat} {M1 : aG} (hk : 1 ≤ k) (hk5 : k ≤ 5) (h1 : rsc M M1) (h2 : bM (D.1 0) M1 by_ T) (h3 : stM M1 by_ T (.inl (k, pl))) : MI x D σ M by_ T i 0 (k4 D (!σ) (tkA (D.1 6) by_ T j) (fB (D.1 3) k pl) (D.1 7) (D.1 (kL (!σ)))) M1 := Or.inl ⟨rfl, k, pl, hk, hk5, FD_of h, h1, h2, Or.inl h3⟩
theorem upR_n {k j k' i' : Nat} {v : Int32} (h : k' ≠ k ∨ i' ≠ j) : fG (upR M k j v) k' i' = fG M k' i' := by
  unfold fG upR
  by_cases c : k' = k
  · subst c
    rw [gA_s]
    by_cases cl : j < (M.2.1 k').length
    · rw [ia_set_getD cl, if_neg (by omega)]
    · rw [List.set_eq_of_length_le (by omega)]
  · rw [gA_n c]
theorem upR_v {k j : Nat} {v : Int32} (hj : j < (M.2.1 k).length) : fG (upR M k j v) k j = v := by
  unfold fG upR
  rw [gA_s, ia_set_getD hj, if_pos rfl]
theorem gA_fn {S : aG} {k j k' i' : Nat} {v : Int32} (h : k' ≠ k ∨ i' ≠ j) : fG (gA S k ((S.2.1 k).set j v)) k' i' = fG S k' i' := upR_n (M := S) h
theorem gA_fv {S : aG} {k j : Nat} {v : Int32} (hj : j < (S.2.1 k).length) : fG (gA S k ((S.2.1 k).set j v)) k j = v := upR_v (M := S) hj
end GX2
