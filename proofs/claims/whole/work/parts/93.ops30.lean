/-! Another world now. -/
section O30
variable (xs : List Int32) (d : Nat) {H h : ia_H} {x a : Nat} {C : aC} {M M' D D' : aG} {σ : Bool} {p n r t t0 q : Nat}
def smN (M M' : aG) : Prop := lnM M' ∧ (∀ k, k < 18 ∨ 34 ≤ k → M'.2.1 k = M.2.1 k) ∧ (∀ k, k < 28 → k ≠ 0 → k ≠ 15 → k ≠ 17 → k ≠ 22 → k ≠ 23 → k ≠ 24 → k ≠ 25 → M'.1 k = M.1 k) ∧ (M'.2.2.2.1 0).length = 7 ∧ (M'.2.2.2.1 1).length = 64 ∧ ∀ X t r p, wfX X t r p → dkA M 2 X t r p → dkA M' 2 X t r p
theorem Rp.nw (hR : Rp x C M σ p n r t t0 q) {X' : aW} {t' q' : Nat} (hm : smN M M') (hN : NWr X' M' t' r p q') (hD : DDr D' X' M' t' r p q') (h0 : ∀ i, pcX X' i) (h2 : ∀ i, nnB (fG D' 2 i)) : Rp x (uG (uW C 1 X') 16 D') M' σ p n r t' t0 q' := by
  obtain ⟨a1, a2, a3, a4, a5, a6, a7, a8, a9, a10, a11⟩ := hR
  obtain ⟨m1, m2, m3, m4, m5, m6⟩ := hm
  have kS16 : ∀ τ, kS τ ≠ 16 := fun τ => by cases τ <;> decide
  have kL16 : ∀ τ, kL τ ≠ 16 := fun τ => by cases τ <;> decide
  have kF1 : ∀ τ, kF τ ≠ 1 := fun τ => by cases τ <;> decide
  have e : ∀ k, k ≠ 16 → (uG (uW C 1 X') 16 D').1 k = C.1 k := fun k hk => uG_n hk
  have w : ∀ k, k ≠ 1 → (uG (uW C 1 X') 16 D').2 k = C.2 k := fun k hk => by rw [uG_2, uW_n hk]
  have w1 : (uG (uW C 1 X') 16 D').2 1 = X' := by rw [uG_2, uW_s]
  have sm2 : ∀ k, k < 18 → M'.2.1 k = M.2.1 k := fun k hk => m2 k (by omega)
  have i : ∀ k, k < 28 → k ≠ 0 → k ≠ 15 → k ≠ 17 → k ≠ 22 → k ≠ 23 → k ≠ 24 → k ≠ 25 → M'.1 k = M.1 k := m3
  refine ⟨fx_s a1 (e 0 (by decide)) (e 3 (by decide)) (e 11 (by decide)) (fun τ => e _ (kS16 τ)), ?_, ?_, ?_, ?_, ?_, ?_, ?_, ?_, ?_, ?_⟩
  · rw [e _ (kS16 σ), e _ (kL16 σ), w _ (kF1 σ)]
    exact a2.s m1 sm2
  · rw [w1]; exact hN
  · exact ⟨(i 18 (by decide) (by decide) (by decide) (by decide) (by decide) (by decide) (by decide) (by decide)).trans a4.1, (i 19 (by decide) (by decide) (by decide) (by decide) (by decide) (by decide) (by decide) (by decide)).trans a4.2.1, (i 20 (by decide) (by decide) (by decide) (by decide) (by decide) (by decide) (by decide) (by decide)).trans a4.2.2.1, (i 21 (by decide) (by decide) (by decide) (by decide) (by decide) (by decide) (by decide) (by decide)).trans a4.2.2.2.1, m4, m5⟩
  · rw [e 0 (by decide), w 2 (by decide)]
    obtain ⟨g1, g2, g3⟩ := a5
    have e16 := i 16 (by decide) (by decide) (by decide) (by decide) (by decide) (by decide) (by decide) (by decide)
    refine ⟨g1.trans e16.symm, g2, ?_⟩
    rw [e16]
    rcases g3 with g3 | ⟨g3, ti, qi, g4, g5, g6, g7⟩
    · exact Or.inl g3
    · exact Or.inr ⟨g3, ti, qi, g4, cm_s g5 sm2, m6 _ _ _ _ g4 g6, g7⟩
  · rw [w1, uG_s]; exact hD
  · rw [e 15 (by decide)]
    exact a7.s (fun k hk hk2 => m2 k (by omega)) (i 26 (by decide) (by decide) (by decide) (by decide) (by decide) (by decide) (by decide) (by decide)) (i 27 (by decide) (by decide) (by decide) (by decide) (by decide) (by decide) (by decide) (by decide))
  · rw [e 0 (by decide)]
    exact a8.s (m2 0 (by decide)) (i 1 (by decide) (by decide) (by decide) (by decide) (by decide) (by decide) (by decide) (by decide))
  · rw [e 3 (by decide)]
    exact ⟨a9.1.trans (i 11 (by decide) (by decide) (by decide) (by decide) (by decide) (by decide) (by decide) (by decide)).symm, a9.2.trans (i 12 (by decide) (by decide) (by decide) (by decide) (by decide) (by decide) (by decide) (by decide)).symm⟩
  · obtain ⟨g1, g2, g3, g4, g5, g6, g7, g8⟩ := a10
    refine ⟨?_, ?_, ?_, ?_, ?_, fun k hk => ?_, fun τ => ?_, ?_⟩
    · rw [e _ (kS16 _)]; exact g1
    · rw [e _ (kL16 _)]; exact g2
    · rw [w _ (kF1 _)]; exact g3
    · rw [e 7 (by decide)]; exact g4
    · rw [e 6 (by decide)]; exact g5
    · by_cases ek : k = 1
      · subst ek; rw [w1]; exact h0
      · rw [w k ek]; exact g6 k hk
    · rw [e _ (kS16 _)]; exact g7 τ
    · rw [uG_s]; exact h2
  · rw [w 5 (by decide)]; exact a11
/-- a deed done: what keepNow and Deeds.add leave, and then the world that comes of it -/
theorem Rp.deed (hR : Rp x C M σ p n r t t0 q) {k' s : Nat} {Xn X' W : aW} {tn : Nat} {v1 v2 v3 : Int32} (hK : smK M M') (hk' : k' < 20) (hks : ∃ k, k' + s = k ∧ M.1 17 = nI k ∧ k ≤ 20) (h17 : M'.1 17 = nI (k' + 1)) (hd : ∀ i X t r p, i < k' → wfX X t r p → dkA M (3 + (i + s)) X t r p → dkA M' (3 + i) X t r p) (hd0 : ∀ X t r p, wfX X t r p → dkA M 0 X t r p → dkA M' (3 + k') X t r p) (hP : DP (C.1 16) D' k' s v1 v2 v3) (hu : uDo D' k' r p Xn tn X' t) (he : eqT (C.2 1) X' t) (hXn : wfX Xn tn r p) (hcm : cmM M Xn r) (hbd : bdX Xn r q) (hW : lnX W) (hWt : W.1 2 = Xn.1 2) (hag : agW W Xn tn r p) (hv3 : nnB v3) (h0 : ∀ i, pcX Xn i) : Rl x (uG (uW C 1 Xn) 16 D') (mz M' 0 W (M'.1 22) (M'.1 15) (M'.2.2.2.1 0, M'.2.2.2.1 1)) := by
  have hn := hR.2.2.1
  have hX := hn.1
  obtain ⟨dl, kk, hkk, dk1, dk2, dkc⟩ := hR.2.2.2.2.2.1
  obtain ⟨k, hks1, hks2, hks3⟩ := hks
  have ekk : kk = k := (nI_eq (by omega) (by omega)).mp (dk2.symm.trans hks2)
  subst ekk
  have hl := hK.1
  have hp6 := hXn.2.1
  have ht8 := hXn.1.2.2.1
  have hr10 := hXn.1.2.2.2.1
  have hJ := hR.2.2.2.1.2.2.2.2
  have hdk : ∀ e X t r p, e ≠ 0 → wfX X t r p → dkA M' e X t r p → dkA (mz M' 0 W (M'.1 22) (M'.1 15) (M'.2.2.2.1 0, M'.2.2.2.1 1)) e X t r p := fun e X t r p he hx hh => dk_ne hl hW (by decide) he hh hx.2.1 hx.1.2.2.1 hx.1.2.2.2.1
  have hint : ∀ k, (mz M' 0 W (M'.1 22) (M'.1 15) (M'.2.2.2.1 0, M'.2.2.2.1 1)).1 k = M'.1 k := fun k => by
    show va_up (va_up M'.1 15 (M'.1 15)) 22 (M'.1 22) k = M'.1 k
    rw [up_id, up_id]
  have hJ' : ∀ k, (mz M' 0 W (M'.1 22) (M'.1 15) (M'.2.2.2.1 0, M'.2.2.2.1 1)).2.2.2.1 k = M.2.2.2.1 k := fun k => by
    show va_up (va_up M'.2.2.2.1 0 (M'.2.2.2.1 0)) 1 (M'.2.2.2.1 1) k = M.2.2.2.1 k
    rw [up_id, up_id, hK.2.2.2.1]
  have hsm : smN M (mz M' 0 W (M'.1 22) (M'.1 15) (M'.2.2.2.1 0, M'.2.2.2.1 1)) := by
    refine ⟨mz_ln hl hW (by decide), fun k hk => (mz_k (by omega)).trans (hK.2.1 k (by omega)), fun k hk h0 _ h17 _ _ _ _ => ?_, ?_, ?_, fun X t r p hx hh => hdk 2 X t r p (by decide) hx (hK.2.2.2.2 2 X t r p (by decide) hx hh)⟩
    · rw [hint]; exact hK.2.2.1 k h17
    · rw [hJ']; exact hJ.1
    · rw [hJ']; exact hJ.2
  have hcm2 : cmM (mz M' 0 W (M'.1 22) (M'.1 15) (M'.2.2.2.1 0, M'.2.2.2.1 1)) Xn r := cm_s hcm (fun k hk => (mz_k (by omega)).trans (hK.2.1 k (by omega)))
  refine (hR.nw hsm ⟨hXn, hcm2, dk_mz hl hW (by decide) hWt hag hp6 ht8 hr10, hbd, hn.2.2.2.2⟩ ⟨hP.1, k' + 1, by omega, hP.2.1, by rw [hint]; exact h17, X', t, hu, he.wf hX, ?_, ag_bd (p := p) he.ag hn.2.2.2.1, ?_⟩ h0 (hP.2.2.2.2.2.2 hR.2.2.2.2.2.2.2.2.2.1.2.2.2.2.2.2.2 hv3)).l
  · exact hdk _ _ _ _ _ (by omega) (he.wf hX) (he.dk (hd0 _ _ _ _ hX hn.2.2.1))
  · refine DDc_eq k' (C.2 1) X' t ?_ he
    refine DDc_sh (s := s) (k' := k') hP.2.2.1 (fun i X t r p hi hx hh => hdk _ _ _ _ _ (by omega) hx (hd i X t r p hi hx hh)) k' _ _ (Nat.le_refl _) ?_
    rw [hks1]
    exact dkc
end O30
