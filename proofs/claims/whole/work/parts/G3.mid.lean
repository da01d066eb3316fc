/-! text: prices and numbers read by both. -/
theorem nuS_j {by_ : Nat → Nat} {T lo hi a j : Nat} (h : nuS by_ T lo hi a = .inr j) : j = tkJ by_ T a ∧ tkK by_ T a = 3 ∧ lo ≤ tkV by_ T a ∧ tkV by_ T a ≤ hi := by
  unfold nuS at h
  by_cases c : tkK by_ T a = 3
  · rw [if_pos c] at h
    by_cases c2 : tkV by_ T a < lo ∨ hi < tkV by_ T a
    · rw [if_pos c2] at h; cases h
    · rw [if_neg c2] at h; cases h
      exact ⟨rfl, c, by omega, by omega⟩
  · rw [if_neg c] at h; cases h
theorem hP.m {S : aG} {F : aW} {M M1 : aG} {p : Nat} (h : hP S F M p) (e2 : ∀ i, i < p → fG M1 2 (6 + i) = fG M 2 (6 + i)) (e3 : ∀ i, i < p → fG M1 3 (6 + i) = fG M 3 (6 + i)) (e4 : ∀ i, i < p → fG M1 4 (6 + i) = fG M 4 (6 + i)) : hP S F M1 p := fun i hi => by
  rw [e2 i hi, e3 i hi, e4 i hi]; exact h i hi
theorem hN.m {S : aG} {M M1 : aG} {n : Nat} (h : hN S M n) (e : ∀ k, k = 8 ∨ k = 9 → ∀ i, i < n → fG M1 k (6 + i) = fG M k (6 + i)) : hN S M1 n := fun i hi => by
  rw [e 8 (Or.inl rfl) i hi, e 9 (Or.inr rfl) i hi]; exact h i hi
theorem hT.m {F : aW} {M M1 : aG} {p t : Nat} (h : hT F M p t) (e : ∀ k, 5 ≤ k → k ≤ 7 → ∀ i, i < t → fG M1 k (8 + i) = fG M k (8 + i)) : hT F M1 p t := fun i hi => by
  rw [e 5 (by decide) (by decide) i hi, e 6 (by decide) (by decide) i hi, e 7 (by decide) (by decide) i hi]; exact h i hi
theorem hC.m {F : aW} {M M1 : aG} {p r : Nat} (h : hC F M p r) (e : ∀ k, 10 ≤ k → k ≤ 13 → ∀ i, i < r → fG M1 k (10 + i) = fG M k (10 + i)) : hC F M1 p r := fun i hi => by
  rw [e 10 (by decide) (by decide) i hi, e 11 (by decide) (by decide) i hi, e 12 (by decide) (by decide) i hi, e 13 (by decide) (by decide) i hi]; exact h i hi
theorem hV.m {S : aG} {M M1 : aG} {w : Nat} (h : hV S M) (hw : w < 19) (hw2 : w < 4 ∨ 6 < w) (e2 : M1.1 2 = M.1 2 ||| ((1 : Int32) <<< (nI w &&& 31))) (e12 : fG M1 1 12 = fG M 1 12) (e13 : fG M1 1 13 = fG M 1 13) : hV S M1 := by
  have b : ∀ k, 4 ≤ k → k ≤ 6 → (tB (M1.1 2) k ↔ tB (M.1 2) k) := fun k h1 h2 => by
    rw [e2, tB_or _ k w (by omega) hw]
    constructor
    · intro z; rcases z with z | z; exact z; omega
    · exact Or.inl
  unfold hV
  rw [e12, e13, b 4 (by decide) (by decide), b 5 (by decide) (by decide), b 6 (by decide) (by decide)]
  exact h
theorem hL.m {L : aG} {M M1 : aG} {kn w : Nat} (h : hL L M kn) (hw : w < 16) (e2 : M1.1 2 = M.1 2 ||| ((1 : Int32) <<< (nI w &&& 31))) (e13 : M1.1 13 = M.1 13) (e14 : M1.1 14 = M.1 14) (e15 : fG M1 1 15 = fG M 1 15) (er : ∀ k, 14 ≤ k → k ≤ 17 → ∀ i, fG M1 k i = fG M k i) : hL L M1 kn := by
  obtain ⟨h1, h2, h3, h4, h5, h6, h7⟩ := h
  refine ⟨h1, h2, e14.trans h3, e15.trans h4, h5, e13.trans h6, fun k hk => ?_⟩
  obtain ⟨g1, g2, a, b, g3, g4, g5, g6, g7, g8⟩ := h7 k hk
  refine ⟨by rw [er 14 (by decide) (by decide)]; exact g1, by rw [er 15 (by decide) (by decide)]; exact g2, a, b, g3, g4, g5, g6, ?_, fun hab => ⟨(g8 hab).1, fun i i1 i2 => by rw [er 16 (by decide) (by decide), er 17 (by decide) (by decide)]; exact (g8 hab).2 i i1 i2⟩⟩
  rw [e2, tB_or _ (16 + k) w (by omega) (by omega)]
  constructor
  · intro z; rcases z with z | z; exact g7.mp z; omega
  · intro z; exact Or.inl (g7.mpr z)
theorem MI_ok {x : Nat} {D : aC} {σ : Bool} {M : aG} {by_ : Nat → Nat} {T i p n t r kn : Nat} (hls : LnS x D σ M by_ T i p n t r kn) {D1 : aC} {M1 : aG} {j p' n' t' r' kn' : Nat} (hij : i < j) (hfr : frD D σ D1) (bm : bM (D.1 0) M1 by_ T) (hat : D1.1 6 = tkA (D.1 6) by_ T j) (hst : stM M1 by_ T (.inr j)) (hr : hR (D1.1 (kS (!σ))) (D1.1 (kL (!σ))) (D1.2 (kF (!σ))) M1 p' n' t' r' kn') (rs : rsc M M1) (h3 : M1.1 3 = M.1 3) (hQ : (D1.1 3).1 0 = (D.1 3).1 0 ∧ (D1.1 3).1 1 = (D.1 3).1 1) : MI x D σ M by_ T i 1 D1 M1 := by
  refine Or.inr ⟨rfl, j, p', n', t', r', kn', hij, ⟨hfr.c hls.1 bm.1, by rw [hfr.bb]; exact bm, ?_, hst, hr, hfr.2.2.2.2.2.2.1⟩, rs, h3, hfr, hQ⟩
  rw [hat]
  exact tkZ_Z.symm
section GX3
variable (xs : List Int32) (d d' : Nat) {H h : ia_H} {x a : Nat} {D : aC} {σ : Bool} {M : aG} {by_ : Nat → Nat} {T i p n t r kn : Nat}
theorem mid_price (hls : LnS x D σ M by_ T i p n t r kn) (hn : n < 6) (h0 : tkK by_ T i ≠ 0) (F : Nat) : ∃ rr D1 M1, ia_cal xs (d + 9) im_Reader_readPrice [.ref (x + 53)] (tot H x D) = some (some (.int rr), tot H x D1) ∧ ia_qr xs (ia_cal xs (d' + 5)) im_Mod_line (F + 1) 39 [.ref a, .int (nI 2), .float 0, .float 0, .float 0] [] (pM h a M) = ia_qr xs (ia_cal xs (d' + 5)) im_Mod_line F 200 [.ref a, .float 0, .float 0, .float 0, .float 0] [] (pM h a M1) ∧ MI x D σ M by_ T i rr D1 M1 := by
  have hls' := hls
  obtain ⟨hc, hb, ha, hs, hh, h7⟩ := hls
  obtain ⟨⟨hS, hw, hF, hf0, hf1, hf2, hpc, hvp⟩, ⟨m8, m9, m10, m11⟩, rP, rN, rT, rC, rV, rL⟩ := hh
  have hiT := hs.2.2.1
  obtain ⟨rr, D1, c1, v1, v2, c2, c3⟩ := c_price xs d (H := H) (B := D.1 3) (E := D.1 7) (L := D.1 (kL (!σ))) hc rfl hiT hS hn
  rw [hls'.kk] at c1
  obtain ⟨u1, u2, M1, l1, l2, l3, l4, l5, l6⟩ := l_price xs d' (h := h) (a := a) hb hs m10 hn (F := F)
  refine ⟨rr, D1, M1, c1, l1, ?_⟩
  have ln8 : (M.2.1 8).length = 12 := hb.2.2 8 (by decide)
  have ln9 : (M.2.1 9).length = 12 := hb.2.2 9 (by decide)
  have ln1 : (M.2.1 1).length = 16 := hb.2.2 1 (by decide)
  have rs : rsc M M1 := ((((rsc_td (w := 2)).t (rsc_up (k := 8) (j := 6 + n) (by decide) (by decide) (by show 6 ≤ 6 + n; omega) (by show 6 + n < (M.2.1 8).length; omega))).t (rsc_up (k := 9) (j := 6 + n) (by decide) (by decide) (by show 6 ≤ 6 + n; omega) (by show 6 + n < (M.2.1 9).length; omega))).t (rsc_up (k := 1) (j := 10) (by decide) (by decide) (by decide) (by show 10 < (M.2.1 1).length; omega))).t (rsc_tsc l2)
  have bm : bM (D.1 0) M1 by_ T := l2.b (bM_up (bM_up (bM_up (td_b hb) (by decide)) (by decide)) (by decide))
  have on1 := (tk_on hc.tk i hiT)
  cases e : nb (nuS by_ T 0 99) (nuS by_ T 0 99 (tkJ by_ T i)) with
  | inl f =>
    rw [e] at c3 l5
    obtain ⟨c4, j, c5⟩ := c3
    rw [c4, c5]
    exact MI_bad hls' l5.2.2.1 l5.2.2.2 rs bm l5
  | inr j =>
    rw [e] at c3 l5
    obtain ⟨c4, c5, c6⟩ := c3
    cases e1 : nuS by_ T 0 99 (tkJ by_ T i) with
    | inl f => rw [e1] at e; cases e
    | inr j1 =>
      rw [e1] at e
      have e2 : nuS by_ T 0 99 j1 = .inr j := e
      obtain ⟨a1, a2, a3, a4⟩ := nuS_j e1
      obtain ⟨b1, b2, b3, b4⟩ := nuS_j e2
      have on2 := tk_on hc.tk (tkJ by_ T i) on1.2.2.1
      have on3 := tk_on hc.tk j1 (by rw [a1]; exact on2.2.2.1)
      have hij := on1.2.2.2.1 h0
      obtain ⟨w1, w2⟩ := c2 j1 e1
      obtain ⟨x1, x2⟩ := l6 j1 e1
      have x2' := x2 j e2
      rw [w1, w2] at c6
      rw [x1, x2'] at l2
      rw [c4, c6]
      have nS := kS_n (ρ := !σ) (τ := !σ)
      refine MI_ok hls' (p' := p) (n' := n + 1) (t' := t) (r' := r) (kn' := kn) (by rw [b1]; omega) ?_ bm rfl l5 ?_ rs (l2.2 3 (by omega)) ⟨rfl, rfl⟩
      · refine ⟨fun k h3 h6 h7' hS' hL' => ?_, fun k _ => rfl, rfl, rfl, rfl, ?_, h7, rfl⟩
        · rw [k4_n h6 h3 h7' hL', uG_n hS']
        · rw [k4_S, uG_s]; rfl
      · rw [k4_S, k4_L, uG_s]
        obtain ⟨s0, s1, s2, s3, s4, s5, s6, s7⟩ := hS
        generalize hS0 : D.1 (kS (!σ)) = S at *
        have fS : ∀ k i', (k ≠ 2 ∨ i' ≠ n) → (k ≠ 3 ∨ i' ≠ n) → fG (gI (gA (gA S 2 ((S.2.1 2).set n (nI (tkV by_ T (tkJ by_ T i))))) 3 ((S.2.1 3).set n (nI (tkV by_ T j1)))) 1 (nI (n + 1))) k i' = fG S k i' := fun k i' h1 h2 => by
          show fG (gA (gA S 2 ((S.2.1 2).set n (nI (tkV by_ T (tkJ by_ T i))))) 3 (((gA S 2 ((S.2.1 2).set n (nI (tkV by_ T (tkJ by_ T i))))).2.1 3).set n (nI (tkV by_ T j1)))) k i' = _
          rw [gA_fn h2, gA_fn h1]
        have fS2 : fG (gI (gA (gA S 2 ((S.2.1 2).set n (nI (tkV by_ T (tkJ by_ T i))))) 3 ((S.2.1 3).set n (nI (tkV by_ T j1)))) 1 (nI (n + 1))) 2 n = nI (tkV by_ T (tkJ by_ T i)) := by
          show fG (gA (gA S 2 ((S.2.1 2).set n (nI (tkV by_ T (tkJ by_ T i))))) 3 (((gA S 2 ((S.2.1 2).set n (nI (tkV by_ T (tkJ by_ T i))))).2.1 3).set n (nI (tkV by_ T j1)))) 2 n = _
          rw [gA_fn (by omega), gA_fv (by omega)]
        have fS3 : fG (gI (gA (gA S 2 ((S.2.1 2).set n (nI (tkV by_ T (tkJ by_ T i))))) 3 ((S.2.1 3).set n (nI (tkV by_ T j1)))) 1 (nI (n + 1))) 3 n = nI (tkV by_ T j1) := by
          show fG (gA (gA S 2 ((S.2.1 2).set n (nI (tkV by_ T (tkJ by_ T i))))) 3 (((gA S 2 ((S.2.1 2).set n (nI (tkV by_ T (tkJ by_ T i))))).2.1 3).set n (nI (tkV by_ T j1)))) 3 n = _
          exact gA_fv (by show n < (S.2.1 3).length; omega)
        generalize hS1 : gI (gA (gA S 2 ((S.2.1 2).set n (nI (tkV by_ T (tkJ by_ T i))))) 3 ((S.2.1 3).set n (nI (tkV by_ T j1)))) 1 (nI (n + 1)) = S1 at *
        have i0 : S1.1 0 = nI p := by rw [← hS1]; exact s0
        have i1 : S1.1 1 = nI (n + 1) := by rw [← hS1]; rfl
        have i2 : S1.1 2 = S.1 2 := by rw [← hS1]; rfl
        have i3 : S1.1 3 = S.1 3 := by rw [← hS1]; rfl
        have i4 : S1.1 4 = S.1 4 := by rw [← hS1]; rfl
        have ln : (S1.2.1 0).length = 6 ∧ (S1.2.1 1).length = 6 ∧ (S1.2.1 2).length = 6 ∧ (S1.2.1 3).length = 6 := by
          rw [← hS1]
          exact ⟨s4, s5, by show ((S.2.1 2).set n _).length = 6; rw [List.length_set]; exact s6, by show ((S.2.1 3).set n _).length = 6; rw [List.length_set]; exact s7⟩
        have mM : ∀ k i', (k ≠ 8 ∨ i' ≠ 6 + n) → (k ≠ 9 ∨ i' ≠ 6 + n) → (k ≠ 1 ∨ i' ≠ 10) → fG M1 k i' = fG M k i' := fun k i' h1 h2 h3 => by
          rw [l2.f, upR_n h3, upR_n h2, upR_n h1]; rfl
        have m8' : fG M1 8 (6 + n) = nI (tkV by_ T (tkJ by_ T i)) := by
          rw [l2.f, upR_n (by omega), upR_n (by omega), upR_v (by show 6 + n < (M.2.1 8).length; omega)]
        have m9' : fG M1 9 (6 + n) = nI (tkV by_ T j1) := by
          rw [l2.f, upR_n (by omega), upR_v (by show 6 + n < (M.2.1 9).length; omega)]
        have m10' : fG M1 1 10 = nI (n + 1) := by
          rw [l2.f, upR_v (by show 10 < (M.2.1 1).length; omega)]
        refine ⟨⟨⟨i0, i1, s2, by omega, ln⟩, hw, hF, hf0, hf1, hf2, hpc, fun i' => ?_⟩, ⟨by rw [mM 1 8 (by omega) (by omega) (by omega)]; exact m8, by rw [mM 1 9 (by omega) (by omega) (by omega)]; exact m9, m10', by rw [mM 1 11 (by omega) (by omega) (by omega)]; exact m11⟩, ?_, ?_, ?_, ?_, ?_, ?_⟩
        · by_cases c : i' = n
          · rw [c]
            refine ⟨by rw [fS 1 n (by omega) (by omega)]; exact (hvp n).1, tkV by_ T j1, b4, fS3⟩
          · refine ⟨by rw [fS 1 i' (by omega) (by omega)]; exact (hvp i').1, ?_⟩
            obtain ⟨u, z1, z2⟩ := (hvp i').2
            exact ⟨u, z1, by rw [fS 3 i' (by omega) (by omega)]; exact z2⟩
        · intro i' hi'
          rw [mM 2 (6 + i') (by omega) (by omega) (by omega), mM 3 (6 + i') (by omega) (by omega) (by omega), mM 4 (6 + i') (by omega) (by omega) (by omega), fS 0 i' (by omega) (by omega), fS 1 i' (by omega) (by omega)]
          exact rP i' hi'
        · intro i' hi'
          by_cases c : i' = n
          · rw [c, m8', m9', fS2, fS3]
            exact ⟨rfl, rfl, nI_pos (by omega)⟩
          · rw [mM 8 (6 + i') (by omega) (by omega) (by omega), mM 9 (6 + i') (by omega) (by omega) (by omega), fS 2 i' (by omega) (by omega), fS 3 i' (by omega) (by omega)]
            exact rN i' (by omega)
        · exact rT.m (fun k k1 k2 i' _ => mM k _ (by omega) (by omega) (by omega))
        · exact rC.m (fun k k1 k2 i' _ => mM k _ (by omega) (by omega) (by omega))
        · have rV' : hV S1 M := by unfold hV; rw [i2, i3, i4]; exact rV
          exact rV'.m (w := 2) (by omega) (by omega) (l2.2 2 (by omega)) (mM 1 12 (by omega) (by omega) (by omega)) (mM 1 13 (by omega) (by omega) (by omega))
        · exact rL.m (w := 2) (by omega) (l2.2 2 (by omega)) (l2.2 13 (by omega)) (l2.2 14 (by omega)) (mM 1 15 (by omega) (by omega) (by omega)) (fun k k1 k2 i' => mM k i' (by omega) (by omega) (by omega))
end GX3
