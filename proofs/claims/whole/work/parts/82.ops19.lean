/-! hear, out, known. -/
section O19
variable (xs : List Int32) (d : Nat) {H h : ia_H} {x a : Nat} {C : aC} {M M' : aG} {σ : Bool} {p n r t t0 q : Nat}
/-- only what was heard differs -/
def smU (M M' : aG) : Prop := lnM M' ∧ (∀ k, k < 34 → M'.2.1 k = M.2.1 k) ∧ (∀ k, k < 26 → k ≠ 0 → M'.1 k = M.1 k) ∧ M'.2.2 = M.2.2
theorem smU.dk (h : smU M M') {d : Nat} {X : aW} (hk : dkA M d X t r p) : dkA M' d X t r p := by
  obtain ⟨-, h2, -⟩ := h
  have f : ∀ k, k < 34 → fG M' k = fG M k := fun k hk => by unfold fG; rw [h2 k hk]
  have ik : ∀ k, k < 12 → ikW k < 34 := by decide
  obtain ⟨b1, b2, b3, b4, b5, b6⟩ := hk
  refine ⟨?_, ?_, ?_, fun k hk i hi => ?_, fun k hk hk2 i hi => ?_, fun k hk hk2 i hi => ?_⟩
  · rw [f 18 (by decide)]; exact b1
  · rw [f 19 (by decide)]; exact b2
  · rw [f 20 (by decide)]; exact b3
  · rw [f _ (ik k (by omega))]; exact b4 k hk i hi
  · rw [f _ (ik k (by omega))]; exact b5 k hk hk2 i hi
  · rw [f _ (ik k (by omega))]; exact b6 k hk hk2 i hi
theorem Rp.u (hR : Rp x C M σ p n r t t0 q) {U : aG} (hm : smU M M') (hU : RUr U M' p) : Rp x (uG C 15 U) M' σ p n r t t0 q := by
  obtain ⟨h1, h2, h3, h4, h5, h6, h7, h8, h9, h10, h11⟩ := hR
  obtain ⟨m1, m2, m3, m4⟩ := hm
  have kS15 : ∀ τ, kS τ ≠ 15 := fun τ => by cases τ <;> decide
  have kL15 : ∀ τ, kL τ ≠ 15 := fun τ => by cases τ <;> decide
  have e : ∀ k, k ≠ 15 → (uG C 15 U).1 k = C.1 k := fun k hk => uG_n hk
  have sm2 : ∀ k, k < 18 → M'.2.1 k = M.2.1 k := fun k hk => m2 k (by omega)
  refine ⟨fx_s h1 (e 0 (by decide)) (e 3 (by decide)) (e 11 (by decide)) (fun τ => e _ (kS15 τ)), ?_, ?_, ?_, ?_, ?_, ?_, ?_, ?_, ?_, h11⟩
  · rw [e _ (kS15 σ), e _ (kL15 σ)]
    exact h2.s m1 sm2
  · exact ⟨h3.1, cm_s h3.2.1 sm2, smU.dk ⟨m1, m2, m3, m4⟩ h3.2.2.1, h3.2.2.2⟩
  · exact ⟨(m3 18 (by decide) (by decide)).trans h4.1, (m3 19 (by decide) (by decide)).trans h4.2.1, (m3 20 (by decide) (by decide)).trans h4.2.2.1, (m3 21 (by decide) (by decide)).trans h4.2.2.2.1, by rw [m4]; exact h4.2.2.2.2.1, by rw [m4]; exact h4.2.2.2.2.2⟩
  · rw [e 0 (by decide)]
    obtain ⟨g1, g2, g3⟩ := h5
    have e16 := m3 16 (by decide) (by decide)
    refine ⟨g1.trans e16.symm, g2, ?_⟩
    rw [e16]
    rcases g3 with g3 | ⟨g3, ti, qi, g4, g5, g6, g7⟩
    · exact Or.inl g3
    · exact Or.inr ⟨g3, ti, qi, g4, cm_s g5 sm2, smU.dk ⟨m1, m2, m3, m4⟩ g6, g7⟩
  · rw [e 16 (by decide)]
    exact h6.m (m3 17 (by decide) (by decide)) (fun d X t _ _ _ hk => smU.dk ⟨m1, m2, m3, m4⟩ hk)
  · rw [uG_s]; exact hU
  · rw [e 0 (by decide)]
    exact h8.s (m2 0 (by decide)) (m3 1 (by decide) (by decide))
  · rw [e 3 (by decide)]
    exact ⟨h9.1.trans (m3 11 (by decide) (by decide)).symm, h9.2.trans (m3 12 (by decide) (by decide)).symm⟩
  · obtain ⟨g1, g2, g3, g4, g5, g6, g7, g8⟩ := h10
    refine ⟨?_, ?_, g3, ?_, ?_, g6, fun τ => ?_, ?_⟩
    · rw [e _ (kS15 _)]; exact g1
    · rw [e _ (kL15 _)]; exact g2
    · rw [e 7 (by decide)]; exact g4
    · rw [e 6 (by decide)]; exact g5
    · rw [e _ (kS15 _)]; exact g7 τ
    · rw [e 16 (by decide)]; exact g8
end O19
