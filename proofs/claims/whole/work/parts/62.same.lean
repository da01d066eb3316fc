/-! What may change without a trace. -/
def smM (M M' : aG) : Prop := lnM M' ∧ (∀ k, k < 18 → M'.2.1 k = M.2.1 k) ∧ (∀ k, 34 ≤ k → k < 38 → M'.2.1 k = M.2.1 k) ∧ (∀ d X t r p, d ≠ 1 → d < 23 → wfX X t r p → dkA M d X t r p → dkA M' d X t r p) ∧ (∀ k, k < 28 → k ≠ 0 → k ≠ 15 → k ≠ 22 → k ≠ 23 → k ≠ 24 → k ≠ 25 → M'.1 k = M.1 k) ∧ (M'.2.2.2.1 0).length = 7 ∧ (M'.2.2.2.1 1).length = 64
def scC (C C' : aC) (σ : Bool) : Prop := C'.1 0 = C.1 0 ∧ C'.1 3 = C.1 3 ∧ C'.1 6 = C.1 6 ∧ C'.1 7 = C.1 7 ∧ C'.1 11 = C.1 11 ∧ C'.1 15 = C.1 15 ∧ C'.1 16 = C.1 16 ∧ (∀ τ, C'.1 (kS τ) = C.1 (kS τ)) ∧ C'.1 (kL (!σ)) = C.1 (kL (!σ)) ∧ (∃ sc, scw sc ∧ C'.1 (kL σ) = gL (C.1 (kL σ)) sc) ∧ (∀ k, k ≠ 5 → C'.2 k = C.2 k) ∧ lnX (C'.2 5)
section SM
variable {x : Nat} {C C' : aC} {M M' S L : aG} {F X I : aW} {σ : Bool} {p n r t t0 q : Nat}
theorem wfQ_gL {sc : List Int64 × List Int64} (h : wfQ L) (hs : scw sc) : wfQ (gL L sc) := ⟨⟨h.1.1, h.1.2.1, h.1.2.2.1, h.1.2.2.2.1, by rw [gL_m]; exact hs.1, by rw [gL_v]; exact hs.2⟩, h.2⟩
theorem rsM.s (h : rsM M S L r p n) (hl : lnM M') (e : ∀ k, k < 18 → M'.2.1 k = M.2.1 k) : rsM M' S L r p n := by
  have f : ∀ k, k < 18 → fG M' k = fG M k := fun k hk => by unfold fG; rw [e k hk]
  unfold rsM at *
  rw [f 1 (by decide), f 3 (by decide), f 8 (by decide), f 9 (by decide), f 14 (by decide), f 15 (by decide), f 16 (by decide), f 17 (by decide)]
  exact ⟨hl, h.2⟩
theorem cm_s (h : cmM M X r) (e : ∀ k, k < 18 → M'.2.1 k = M.2.1 k) : cmM M' X r := by
  have f : ∀ k, k < 18 → fG M' k = fG M k := fun k hk => by unfold fG; rw [e k hk]
  unfold cmM at *
  rw [f 10 (by decide), f 11 (by decide)]
  exact h
theorem stW_s (e : ∀ k, k < 18 → M'.2.1 k = M.2.1 k) : stW M' F = stW M F := by
  have f : ∀ k, k < 18 → fG M' k = fG M k := fun k hk => by unfold fG; rw [e k hk]
  have g : stg M' = stg M := by
    funext k i
    unfold stg
    rw [f 1 (by decide), f 4 (by decide), f 5 (by decide), f 6 (by decide), f 7 (by decide), f 12 (by decide), f 13 (by decide)]
  unfold stW
  rw [g, f 1 (by decide)]
theorem TXr.s (h : TXr S L F M p n r t0) (hl : lnM M') (e : ∀ k, k < 18 → M'.2.1 k = M.2.1 k) : TXr S L F M' p n r t0 := by
  have f : ∀ k, k < 18 → fG M' k = fG M k := fun k hk => by unfold fG; rw [e k hk]
  obtain ⟨h1, h2, h3, h4, h5, h6, h7, h8, h9, h10, h11, h12⟩ := h
  refine ⟨h1, h2, h3.s hl e, ?_, ?_, ?_, ?_, ?_, h9, h10, cm_s h11 e, by rw [stW_s e]; exact h12⟩
  · rw [f 2 (by decide)]; exact h4
  · rw [f 1 (by decide)]; exact h5
  · rw [f 1 (by decide)]; exact h6
  · rw [f 1 (by decide)]; exact h7
  · rw [f 1 (by decide)]; exact h8
theorem TXr.g {sc : List Int64 × List Int64} (h : TXr S L F M p n r t0) (hs : scw sc) : TXr S (gL L sc) F M p n r t0 := ⟨h.1, wfQ_gL h.2.1 hs, h.2.2⟩
theorem IMr.s {N : aG} (h : IMr N I M r p) (hm : smM M M') : IMr N I M' r p := by
  have e : M'.1 16 = M.1 16 := hm.2.2.2.2.1 16 (by decide) (by decide) (by decide) (by decide) (by decide) (by decide) (by decide)
  obtain ⟨h1, h2, h3⟩ := h
  refine ⟨h1.trans e.symm, h2, ?_⟩
  rcases h3 with h3 | ⟨h3, ti, qi, g1, g2, g3, g4⟩
  · exact Or.inl (e.trans h3)
  · exact Or.inr ⟨e.trans h3, ti, qi, g1, cm_s g2 hm.2.1, hm.2.2.2.1 2 _ _ _ _ (by decide) (by decide) g1 g3, g4⟩
theorem RUr.s {U : aG} (h : RUr U M p) (e1 : ∀ k, 34 ≤ k → k < 38 → M'.2.1 k = M.2.1 k) (e2 : M'.1 26 = M.1 26) (e3 : M'.1 27 = M.1 27) : RUr U M' p := by
  have f : ∀ k, 34 ≤ k → k < 38 → fG M' k = fG M k := fun k hk hk2 => by unfold fG; rw [e1 k hk hk2]
  obtain ⟨h1, w, h2, h3, h4, h5, h6, h7⟩ := h
  refine ⟨h1, w, h2, h3, e2.trans h4, h5.trans e3.symm, ?_, fun i hi => ?_⟩
  · rw [e3]; exact h6
  · have := h7 i hi
    unfold RUi at *
    rw [f 34 (by decide) (by decide), f 35 (by decide) (by decide), f 36 (by decide) (by decide), f 37 (by decide) (by decide)]
    exact this
theorem TPr.s {N : aG} (h : TPr N M) (e0 : M'.2.1 0 = M.2.1 0) (e1 : M'.1 1 = M.1 1) : TPr N M' := by
  have f : fG M' 0 = fG M 0 := by unfold fG; rw [e0]
  obtain ⟨h1, T, h2, h3, h4, h5⟩ := h
  refine ⟨h1, T, h2, h3, e1.trans h4, ?_⟩
  rw [f]
  exact h5
theorem fx_s (q : fx x C σ) (h0 : C'.1 0 = C.1 0) (h3 : C'.1 3 = C.1 3) (h11 : C'.1 11 = C.1 11) (hS : ∀ τ, C'.1 (kS τ) = C.1 (kS τ)) : fx x C' σ := by
  unfold fx at *
  rw [h0, h3, h11]
  exact ⟨q.1, q.2.1, q.2.2.1, fun τ => by rw [hS τ]; exact q.2.2.2 τ⟩
theorem Rp.sc (h : Rp x C M σ p n r t t0 q) (hc : scC C C' σ) (hm : smM M M') : Rp x C' M' σ p n r t t0 q := by
  obtain ⟨h1, h2, h3, h4, h5, h6, h7, h8, h9, h10, h11⟩ := h
  obtain ⟨c0, c3, c6, c7, c11, c15, c16, cS, cL, ⟨sc, hsc, cLs⟩, cW, c5⟩ := hc
  obtain ⟨m1, m2, m3, m4, m5, m6, m7⟩ := hm
  have i : ∀ k, k < 28 → k ≠ 0 → k ≠ 15 → k ≠ 22 → k ≠ 23 → k ≠ 24 → k ≠ 25 → M'.1 k = M.1 k := m5
  have kF5 : kF σ ≠ 5 := by cases σ <;> decide
  have kF6 : kF (!σ) ≠ 5 := by cases σ <;> decide
  refine ⟨fx_s h1 c0 c3 c11 cS, ?_, ?_, ?_, ?_, ?_, ?_, ?_, ?_, ?_, c5⟩
  · rw [cS, cLs, cW _ kF5]
    exact (h2.s m1 m2).g hsc
  · rw [cW 1 (by decide)]
    exact ⟨h3.1, cm_s h3.2.1 m2, m4 0 _ _ _ _ (by decide) (by decide) h3.1 h3.2.2.1, h3.2.2.2⟩
  · exact ⟨(i 18 (by decide) (by decide) (by decide) (by decide) (by decide) (by decide) (by decide)).trans h4.1, (i 19 (by decide) (by decide) (by decide) (by decide) (by decide) (by decide) (by decide)).trans h4.2.1, (i 20 (by decide) (by decide) (by decide) (by decide) (by decide) (by decide) (by decide)).trans h4.2.2.1, (i 21 (by decide) (by decide) (by decide) (by decide) (by decide) (by decide) (by decide)).trans h4.2.2.2.1, m6, m7⟩
  · rw [c0, cW 2 (by decide)]
    exact h5.s ⟨m1, m2, m3, m4, m5, m6, m7⟩
  · rw [c16, cW 1 (by decide)]
    exact h6.m (i 17 (by decide) (by decide) (by decide) (by decide) (by decide) (by decide) (by decide)) (fun d X t a b w => m4 d X t r p (by omega) (by omega) w)
  · rw [c15]
    exact h7.s m3 (i 26 (by decide) (by decide) (by decide) (by decide) (by decide) (by decide) (by decide)) (i 27 (by decide) (by decide) (by decide) (by decide) (by decide) (by decide) (by decide))
  · rw [c0]
    exact h8.s (m2 0 (by decide)) (i 1 (by decide) (by decide) (by decide) (by decide) (by decide) (by decide) (by decide))
  · rw [c3]
    exact ⟨h9.1.trans (i 11 (by decide) (by decide) (by decide) (by decide) (by decide) (by decide) (by decide)).symm, h9.2.trans (i 12 (by decide) (by decide) (by decide) (by decide) (by decide) (by decide) (by decide)).symm⟩
  · obtain ⟨g1, g2, g3, g4, g5, g6, g7, g8⟩ := h10
    exact ⟨by rw [cS]; exact g1, by rw [cL]; exact g2, by rw [cW _ kF6]; exact g3, by rw [c7]; exact g4, by rw [c6]; exact g5, fun k hk => by rw [cW k hk]; exact g6 k hk, fun τ => by rw [cS τ]; exact g7 τ, by rw [c16]; exact g8⟩
theorem smM.rf (h : lnM M) (h0 : (M.2.2.2.1 0).length = 7) (h1 : (M.2.2.2.1 1).length = 64) : smM M M := ⟨h, fun _ _ => rfl, fun _ _ _ => rfl, fun _ _ _ _ _ _ _ _ h => h, fun _ _ _ _ _ _ _ _ => rfl, h0, h1⟩
theorem smM.trans {M'' : aG} (a : smM M M') (b : smM M' M'') : smM M M'' := ⟨b.1, fun k hk => (b.2.1 k hk).trans (a.2.1 k hk), fun k h1 h2 => (b.2.2.1 k h1 h2).trans (a.2.2.1 k h1 h2), fun d X t r p h1 h2 h3 h4 => b.2.2.2.1 d X t r p h1 h2 h3 (a.2.2.2.1 d X t r p h1 h2 h3 h4), fun k h1 h2 h3 h4 h5 h6 h7 => (b.2.2.2.2.1 k h1 h2 h3 h4 h5 h6 h7).trans (a.2.2.2.2.1 k h1 h2 h3 h4 h5 h6 h7), b.2.2.2.2.2.1, b.2.2.2.2.2.2⟩
theorem smM.mz {Y : aW} {dr wk : Int32} {sc : List Int64 × List Int64} (hl : lnM M) (hY : lnX Y) (hs : scw sc) : smM M (mz M 1 Y dr wk sc) := by
  refine ⟨mz_ln hl hY (by decide), fun k hk => mz_k (Or.inl hk), fun k h1 h2 => mz_k (Or.inr (by omega)), fun d X t r p h1 h2 h3 h4 => dk_ne hl hY (by decide) h1 h4 h3.2.1 h3.1.2.2.1 h3.1.2.2.2.1, fun k h1 h2 h3 h4 _ _ _ => ?_, ?_, ?_⟩
  · show va_up (va_up M.1 15 wk) 22 dr k = M.1 k
    rw [up_n h4, up_n h3]
  · show (va_up (va_up M.2.2.2.1 0 sc.1) 1 sc.2 0).length = 7
    rw [up_n (by decide), up_s]
    exact hs.1
  · show (va_up (va_up M.2.2.2.1 0 sc.1) 1 sc.2 1).length = 64
    rw [up_s]
    exact hs.2
theorem smM.i {k : Nat} {v : Int32} (h : smM M M') (hk : k = 0 ∨ k = 15 ∨ k = 22 ∨ k = 23 ∨ k = 24 ∨ k = 25) : smM M (gI M' k v) := by
  refine ⟨h.1, h.2.1, h.2.2.1, h.2.2.2.1, fun j h1 h2 h3 h4 h5 h6 h7 => ?_, h.2.2.2.2.2⟩
  rw [gI_n (by omega)]
  exact h.2.2.2.2.1 j h1 h2 h3 h4 h5 h6 h7
theorem scC.rf (hQ : wfQ (C.1 (kL σ))) (h5 : lnX (C.2 5)) : scC C C σ := ⟨rfl, rfl, rfl, rfl, rfl, rfl, rfl, fun _ => rfl, rfl, ⟨((C.1 (kL σ)).2.2.2.1 0, (C.1 (kL σ)).2.2.2.1 1), ⟨hQ.1.2.2.2.2.1, hQ.1.2.2.2.2.2⟩, gL_id.symm⟩, fun _ _ => rfl, h5⟩
theorem scC.nx {ε : Bool} {X : aW} {dr : Int64} {sc : List Int64 × List Int64} (hX : lnX X) (hs : scw sc) : scC C (nx C ε 5 σ X dr sc) σ := by
  have n := kne σ ε
  have n2 := kne2 σ ε
  have nl : kL (!σ) ≠ kL σ := by cases σ <;> decide
  have ne : kL (!σ) ≠ kE ε := by cases σ <;> cases ε <;> decide
  refine ⟨nx_n n.2.2.2.2.2.1 n.2.2.2.1, nx_n n.2.2.2.2.2.2.2.2.1 n.2.2.2.2.2.2.1, nx_n n2.2.2.1 n2.1, nx_n n2.2.2.2.2.2.1 n2.2.2.2.1, nx_n n.2.2.2.2.2.2.2.2.2.2.2 n.2.2.2.2.2.2.2.2.2.1, nx_n n2.2.2.2.2.2.2.2.2.1 n2.2.2.2.2.2.2.1, nx_n n2.2.2.2.2.2.2.2.2.2.2.2 n2.2.2.2.2.2.2.2.2.2.1, fun τ => nx_n (kne τ ε).2.2.1 (kne3 σ τ), nx_n ne nl, ⟨sc, hs, nx_L⟩, fun k hk => nx_Wn hk, by rw [nx_W]; exact hX⟩
theorem scC.trans {C'' : aC} (a : scC C C' σ) (b : scC C' C'' σ) : scC C C'' σ := by
  obtain ⟨a0, a3, a6, a7, a11, a15, a16, aS, aL, ⟨sc1, hs1, aLs⟩, aW, a5⟩ := a
  obtain ⟨b0, b3, b6, b7, b11, b15, b16, bS, bL, ⟨sc2, hs2, bLs⟩, bW, b5⟩ := b
  refine ⟨b0.trans a0, b3.trans a3, b6.trans a6, b7.trans a7, b11.trans a11, b15.trans a15, b16.trans a16, fun τ => (bS τ).trans (aS τ), bL.trans aL, ⟨sc2, hs2, ?_⟩, fun k hk => (bW k hk).trans (aW k hk), b5⟩
  rw [bLs, aLs]
  unfold gL gB
  refine Prod.ext rfl (Prod.ext rfl (Prod.ext rfl (Prod.ext ?_ rfl)))
  funext j
  show (if j = 1 then sc2.2 else if j = 0 then sc2.1 else if j = 1 then sc1.2 else if j = 0 then sc1.1 else (C.1 (kL σ)).2.2.2.1 j) = if j = 1 then sc2.2 else if j = 0 then sc2.1 else (C.1 (kL σ)).2.2.2.1 j
  by_cases h1 : j = 1
  · rw [if_pos h1, if_pos h1]
  · by_cases h0 : j = 0
    · rw [if_neg h1, if_pos h0, if_neg h1, if_pos h0]
    · rw [if_neg h1, if_neg h0, if_neg h1, if_neg h0, if_neg h1, if_neg h0]
theorem scC.look {j : Nat} (hQ : wfQ (C.1 (kL σ))) (hJ : lnX (C.2 j)) (E : aG) : scC C (uG (uW C 5 (C.2 j)) 12 E) σ := by
  have e12 : ∀ k, k ≠ 12 → (uG (uW C 5 (C.2 j)) 12 E).1 k = C.1 k := fun k hk => by rw [uG_n hk, uW_1]
  have kS12 : ∀ τ, kS τ ≠ 12 := fun τ => by cases τ <;> decide
  have kL12 : ∀ τ, kL τ ≠ 12 := fun τ => by cases τ <;> decide
  refine ⟨e12 0 (by decide), e12 3 (by decide), e12 6 (by decide), e12 7 (by decide), e12 11 (by decide), e12 15 (by decide), e12 16 (by decide), fun τ => e12 _ (kS12 τ), e12 _ (kL12 _), ⟨((C.1 (kL σ)).2.2.2.1 0, (C.1 (kL σ)).2.2.2.1 1), ⟨hQ.1.2.2.2.2.1, hQ.1.2.2.2.2.2⟩, ?_⟩, fun k hk => ?_, ?_⟩
  · rw [e12 _ (kL12 σ), gL_id]
  · rw [uG_2, uW_n hk]
  · rw [uG_2, uW_s]
    exact hJ
theorem scC.openE (ε : Bool) (hQ : wfQ (C.1 (kL σ))) (h5 : lnX (C.2 5)) (E : aG) : scC C (uG C (kE ε) E) σ := by
  have e12 : ∀ k, k ≠ kE ε → (uG C (kE ε) E).1 k = C.1 k := fun k hk => uG_n hk
  have n := kne σ ε
  have n2 := kne2 σ ε
  have kL12 : ∀ τ, kL τ ≠ kE ε := fun τ => (kne τ ε).2.1
  refine ⟨e12 0 n.2.2.2.2.2.1, e12 3 n.2.2.2.2.2.2.2.2.1, e12 6 n2.2.2.1, e12 7 n2.2.2.2.2.2.1, e12 11 n.2.2.2.2.2.2.2.2.2.2.2, e12 15 n2.2.2.2.2.2.2.2.2.1, e12 16 n2.2.2.2.2.2.2.2.2.2.2.2, fun τ => e12 _ (kne τ ε).2.2.1, e12 _ (kL12 _), ⟨((C.1 (kL σ)).2.2.2.1 0, (C.1 (kL σ)).2.2.2.1 1), ⟨hQ.1.2.2.2.2.1, hQ.1.2.2.2.2.2⟩, ?_⟩, fun k hk => rfl, h5⟩
  rw [e12 _ (kL12 σ), gL_id]
theorem Rp.sm (h : Rp x C M σ p n r t t0 q) : smM M M := smM.rf h.2.1.2.2.1.1 h.2.2.2.1.2.2.2.2.1 h.2.2.2.1.2.2.2.2.2
theorem Rp.sr (h : Rp x C M σ p n r t t0 q) : scC C C σ := scC.rf h.2.1.2.1 h.2.2.2.2.2.2.2.2.2.2
/-- the default ways, in reference and class -/
theorem op0 {E0 : aG} {s : Nat} (hO : OPr M) (hT : TXr S L F M p n r t0) : opM M (opE E0 s S) := by
  obtain ⟨o1, o2, o3, o4, -⟩ := hO
  refine ⟨?_, ?_, ?_, ?_, ?_⟩
  · rw [if_pos o3, o1, if_neg (by decide), hT.2.2.2.2.1]; rfl
  · rw [o1, if_neg (by decide), hT.2.2.2.2.2.1]; rfl
  · rw [o1]
    exact ⟨fun q => absurd q (by decide), fun q => absurd rfl q⟩
  · rw [o1, if_neg (by decide)]; rfl
  · rw [o4]
    exact ⟨fun _ => rfl, fun _ => rfl⟩
end SM
