/-! text: people read by both. -/
section GX6
variable (xs : List Int32) (d d' : Nat) {H h : ia_H} {x a : Nat} {D : aC} {σ : Bool} {M : aG} {by_ : Nat → Nat} {T i p n t r kn : Nat}
theorem mid_man (hls : LnS x D σ M by_ T i p n t r kn) (hp : p < 6) (h0 : tkK by_ T i ≠ 0) (F : Nat) : ∃ rr D1 M1, ia_cal xs (d + 9) im_Reader_readMan [.ref (x + 53)] (tot H x D) = some (some (.int rr), tot H x D1) ∧ ia_qr xs (ia_cal xs (d' + 5)) im_Mod_line (F + 1) 39 [.ref a, .int (nI 0), .float 0, .float 0, .float 0] [] (pM h a M) = ia_qr xs (ia_cal xs (d' + 5)) im_Mod_line F 200 [.ref a, .float 0, .float 0, .float 0, .float 0] [] (pM h a M1) ∧ MI x D σ M by_ T i rr D1 M1 := by
  have hls' := hls
  obtain ⟨hc, hb, ha, hs, hh, h7⟩ := hls
  obtain ⟨⟨hS, hw, hF, hf0, hf1, hf2, hpc, hvp⟩, ⟨m8, m9, m10, m11⟩, rP, rN, rT, rC, rV, rL⟩ := hh
  have hiT := hs.2.2.1
  obtain ⟨f2, f3, f4, f5, fl1, fl2, fl3⟩ := hF
  have lx0 := fl1 0 (by decide)
  obtain ⟨rr, D1, c1, v1, v2, c2, c3⟩ := c_man xs d (H := H) (B := D.1 3) (E := D.1 7) (L := D.1 (kL (!σ))) hc rfl hiT hS hp lx0
  rw [hls'.kk] at c1
  obtain ⟨u0, u1, u2, M1, l1, l2, l3, l4, l5, l6⟩ := l_man xs d' (h := h) (a := a) hb hs m8 hp (F := F)
  have en : ∀ i, i < p → fG M 2 (6 + i) = fG (D.1 (kS (!σ))) 0 i := fun i hi => (rP i hi).1
  rw [fr_e en] at l5
  refine ⟨rr, D1, M1, c1, l1, ?_⟩
  have ln2 : (M.2.1 2).length = 12 := hb.2.2 2 (by decide)
  have ln3 : (M.2.1 3).length = 12 := hb.2.2 3 (by decide)
  have ln4 : (M.2.1 4).length = 12 := hb.2.2 4 (by decide)
  have ln1 : (M.2.1 1).length = 16 := hb.2.2 1 (by decide)
  have rs : rsc M M1 := (((((rsc_td (w := 0)).t (rsc_up (k := 2) (j := 6 + p) (by decide) (by decide) (by show 6 ≤ 6 + p; omega) (by show 6 + p < (M.2.1 2).length; omega))).t (rsc_up (k := 3) (j := 6 + p) (by decide) (by decide) (by show 6 ≤ 6 + p; omega) (by show 6 + p < (M.2.1 3).length; omega))).t (rsc_up (k := 4) (j := 6 + p) (by decide) (by decide) (by show 6 ≤ 6 + p; omega) (by show 6 + p < (M.2.1 4).length; omega))).t (rsc_up (k := 1) (j := 8) (by decide) (by decide) (by decide) (by show 8 < (M.2.1 1).length; omega))).t (rsc_tsc l2)
  have bm : bM (D.1 0) M1 by_ T := l2.b (bM_up (bM_up (bM_up (bM_up (td_b hb) (by decide)) (by decide)) (by decide)) (by decide))
  have on1 := (tk_on hc.tk i hiT)
  cases e : nb (nuS by_ T 0 999) (nb (nuS by_ T 0 99) (frS (fG (D.1 (kS (!σ))) 0) p by_ T (tkJ by_ T i))) with
  | inl f =>
    rw [e] at c3 l5
    obtain ⟨c4, j, c5⟩ := c3
    rw [c4, c5]
    exact MI_bad hls' l5.2.2.1 l5.2.2.2 rs bm l5
  | inr j =>
    rw [e] at c3 l5
    obtain ⟨c4, c5, c6⟩ := c3
    cases e0 : frS (fG (D.1 (kS (!σ))) 0) p by_ T (tkJ by_ T i) with
    | inl f => rw [e0] at e; cases e
    | inr j0 =>
      rw [e0] at e
      have z1 := frS_j e0
      cases e1 : nuS by_ T 0 99 j0 with
      | inl f => rw [show nb (nuS by_ T 0 99) (.inr j0) = nuS by_ T 0 99 j0 from rfl, e1] at e; cases e
      | inr j1 =>
        have e2 : nuS by_ T 0 999 j1 = .inr j := by
          rw [show nb (nuS by_ T 0 99) (.inr j0) = nuS by_ T 0 99 j0 from rfl, e1] at e
          exact e
        obtain ⟨a1, a2, a3, a4⟩ := nuS_j e1
        obtain ⟨b1, b2, b3, b4⟩ := nuS_j e2
        have on2 := tk_on hc.tk (tkJ by_ T i) on1.2.2.1
        have on3 := tk_on hc.tk j0 (by rw [z1]; exact on2.2.2.1)
        have on4 := tk_on hc.tk j1 (by rw [a1]; exact on3.2.2.1)
        have hij := on1.2.2.2.1 h0
        obtain ⟨w1, w2⟩ := c2 j0 e0 j1 e1
        obtain ⟨x0, x1⟩ := l6 j0 (by rw [fr_e en]; exact e0)
        obtain ⟨x1, x2⟩ := x1 j1 e1
        have x2 := x2 j e2
        rw [w1, w2] at c6
        rw [x0, x1, x2] at l2
        rw [c4, c6]
        refine MI_ok hls' (p' := p + 1) (n' := n) (t' := t) (r' := r) (kn' := kn) (by rw [b1]; omega) ?_ bm rfl l5 ?_ rs (l2.2 3 (by omega)) ⟨rfl, rfl⟩
        · refine ⟨fun k h3 h6 h7' hS' hL' => ?_, fun k hk => uW_n hk, rfl, rfl, rfl, ?_, h7, rfl⟩
          · rw [k4_n h6 h3 h7' hL', uG_n hS']; rfl
          · rw [k4_S, uG_s]; rfl
        · rw [k4_S, k4_L, uG_s, k4_2, uG_2, uW_s]
          show hR _ (D.1 (kL (!σ))) _ M1 (p + 1) n t r kn
          obtain ⟨s0, s1, s2, s3, s4, s5, s6, s7⟩ := hS
          generalize hS0 : D.1 (kS (!σ)) = S at *
          generalize D.2 (kF (!σ)) = X at *
          generalize nI (tkV by_ T (tkJ by_ T i)) = vn at *
          have fS : ∀ k i', (k ≠ 0 ∨ i' ≠ p) → (k ≠ 1 ∨ i' ≠ p) → fG (gI (gA (gA S 0 ((S.2.1 0).set p vn)) 1 ((S.2.1 1).set p (nI (tkV by_ T j0)))) 0 (nI (p + 1))) k i' = fG S k i' := fun k i' h1 h2 => by
            show fG (gA (gA S 0 ((S.2.1 0).set p vn)) 1 (((gA S 0 ((S.2.1 0).set p vn)).2.1 1).set p (nI (tkV by_ T j0)))) k i' = _
            rw [gA_fn h2, gA_fn h1]
          have fS0 : fG (gI (gA (gA S 0 ((S.2.1 0).set p vn)) 1 ((S.2.1 1).set p (nI (tkV by_ T j0)))) 0 (nI (p + 1))) 0 p = vn := by
            show ((S.2.1 0).set p vn).getD p 0 = _
            rw [ia_set_getD (by omega), if_pos rfl]
          have fS1 : fG (gI (gA (gA S 0 ((S.2.1 0).set p vn)) 1 ((S.2.1 1).set p (nI (tkV by_ T j0)))) 0 (nI (p + 1))) 1 p = nI (tkV by_ T j0) := by
            show ((S.2.1 1).set p _).getD p 0 = _
            rw [ia_set_getD (by omega), if_pos rfl]
          generalize hS1 : gI (gA (gA S 0 ((S.2.1 0).set p vn)) 1 ((S.2.1 1).set p (nI (tkV by_ T j0)))) 0 (nI (p + 1)) = S1 at *
          have i0 : S1.1 0 = nI (p + 1) := by rw [← hS1]; rfl
          have i1 : S1.1 1 = nI n := by rw [← hS1]; exact s1
          have i2 : S1.1 2 = S.1 2 := by rw [← hS1]; rfl
          have i3 : S1.1 3 = S.1 3 := by rw [← hS1]; rfl
          have i4 : S1.1 4 = S.1 4 := by rw [← hS1]; rfl
          have ln : (S1.2.1 0).length = 6 ∧ (S1.2.1 1).length = 6 ∧ (S1.2.1 2).length = 6 ∧ (S1.2.1 3).length = 6 := by
            rw [← hS1]
            exact ⟨by show ((S.2.1 0).set p _).length = 6; rw [List.length_set]; exact s4, by show ((S.2.1 1).set p _).length = 6; rw [List.length_set]; exact s5, s6, s7⟩
          have fX : ∀ k i', (k ≠ 0 ∨ i' ≠ p) → fA (sA X 0 ((X.2 0).set p (nI (tkV by_ T j1)))) k i' = fA X k i' := fun k i' hk => sA_fn hk
          have gX : fA (sA X 0 ((X.2 0).set p (nI (tkV by_ T j1)))) 0 p = nI (tkV by_ T j1) := sA_fv (by omega)
          have lX : lnX (sA X 0 ((X.2 0).set p (nI (tkV by_ T j1)))) := lnX_sA ⟨fl1, fl2, fl3⟩ (List.length_set ..)
          have iX : ∀ k, (sA X 0 ((X.2 0).set p (nI (tkV by_ T j1)))).1 k = X.1 k := fun k => rfl
          generalize sA X 0 ((X.2 0).set p (nI (tkV by_ T j1))) = Y at *
          have mM : ∀ k i', (k ≠ 2 ∨ i' ≠ 6 + p) → (k ≠ 3 ∨ i' ≠ 6 + p) → (k ≠ 4 ∨ i' ≠ 6 + p) → (k ≠ 1 ∨ i' ≠ 8) → fG M1 k i' = fG M k i' := fun k i' h1 h2 h3 h4 => by
            rw [l2.f, upR_n h4, upR_n h3, upR_n h2, upR_n h1]; rfl
          have n2 : fG M1 2 (6 + p) = vn := by rw [l2.f, upR_n (by omega), upR_n (by omega), upR_n (by omega), upR_v (by show 6 + p < (M.2.1 2).length; omega)]
          have n3 : fG M1 3 (6 + p) = nI (tkV by_ T j0) := by rw [l2.f, upR_n (by omega), upR_n (by omega), upR_v (by show 6 + p < (M.2.1 3).length; omega)]
          have n4 : fG M1 4 (6 + p) = nI (tkV by_ T j1) := by rw [l2.f, upR_n (by omega), upR_v (by show 6 + p < (M.2.1 4).length; omega)]
          have n8 : fG M1 1 8 = nI (p + 1) := by rw [l2.f, upR_v (by show 8 < (M.2.1 1).length; omega)]
          refine ⟨⟨⟨i0, i1, by omega, s3, ln⟩, hw, ⟨by rw [iX]; exact f2, by rw [iX]; exact f3, f4, f5, lX⟩, by rw [iX]; exact hf0, by rw [iX]; exact hf1, fun i' hi' => by rw [fX 1 i' (by omega)]; exact hf2 i' hi', fun i' => ?_, fun i' => ?_⟩, ⟨n8, by rw [mM 1 9 (by omega) (by omega) (by omega) (by omega)]; exact m9, by rw [mM 1 10 (by omega) (by omega) (by omega) (by omega)]; exact m10, by rw [mM 1 11 (by omega) (by omega) (by omega) (by omega)]; exact m11⟩, ?_, ?_, ?_, ?_, ?_, ?_⟩
          · refine ⟨?_, by rw [fX 4 i' (by omega)]; exact (hpc i').2⟩
            by_cases ci : i' = p
            · rw [ci]; exact ⟨tkV by_ T j1, by omega, gX⟩
            · rw [fX 0 i' (by omega)]; exact (hpc i').1
          · refine ⟨?_, by rw [fS 3 i' (by omega) (by omega)]; exact (hvp i').2⟩
            by_cases ci : i' = p
            · rw [ci, fS1]; exact nI_pos (by omega)
            · rw [fS 1 i' (by omega) (by omega)]; exact (hvp i').1
          · intro i' hi'
            by_cases ci : i' = p
            · rw [ci, n2, n3, n4, fS0, fS1, gX]
              exact ⟨rfl, rfl, rfl⟩
            · rw [mM 2 _ (by omega) (by omega) (by omega) (by omega), mM 3 _ (by omega) (by omega) (by omega) (by omega), mM 4 _ (by omega) (by omega) (by omega) (by omega), fX 0 i' (by omega), fS 0 i' (by omega) (by omega), fS 1 i' (by omega) (by omega)]
              exact rP i' (by omega)
          · intro i' hi'
            rw [mM 8 _ (by omega) (by omega) (by omega) (by omega), mM 9 _ (by omega) (by omega) (by omega) (by omega), fS 2 i' (by omega) (by omega), fS 3 i' (by omega) (by omega)]
            exact rN i' hi'
          · intro i' hi'
            rw [mM 5 _ (by omega) (by omega) (by omega) (by omega), mM 6 _ (by omega) (by omega) (by omega) (by omega), mM 7 _ (by omega) (by omega) (by omega) (by omega), fX 2 i' (by omega), fX 3 i' (by omega), fX 4 i' (by omega), fX 5 i' (by omega)]
            obtain ⟨g1, g2, g3, g4, m, g5, g6⟩ := rT i' hi'
            exact ⟨g1, g2, g3, g4, m, by omega, g6⟩
          · intro i' hi'
            rw [mM 10 _ (by omega) (by omega) (by omega) (by omega), mM 11 _ (by omega) (by omega) (by omega) (by omega), mM 12 _ (by omega) (by omega) (by omega) (by omega), mM 13 _ (by omega) (by omega) (by omega) (by omega), fX 6 i' (by omega), fX 7 i' (by omega), fX 8 i' (by omega), fX 9 i' (by omega), fX 10 i' (by omega), fX 11 i' (by omega)]
            obtain ⟨g1, g2, g3, g4, g5, g6, ⟨m, g7, g8⟩, ⟨m', g9, g10⟩, g11⟩ := rC i' hi'
            exact ⟨g1, g2, g3, g4, g5, g6, ⟨m, by omega, g8⟩, ⟨m', by omega, g10⟩, g11⟩
          · have rV' : hV S1 M := by unfold hV; rw [i2, i3, i4]; exact rV
            exact rV'.m (w := 0) (by omega) (by omega) (l2.2 2 (by omega)) (mM 1 12 (by omega) (by omega) (by omega) (by omega)) (mM 1 13 (by omega) (by omega) (by omega) (by omega))
          · exact rL.m (w := 0) (by omega) (l2.2 2 (by omega)) (l2.2 13 (by omega)) (l2.2 14 (by omega)) (mM 1 15 (by omega) (by omega) (by omega) (by omega)) (fun k k1 k2 i' => mM k i' (by omega) (by omega) (by omega) (by omega))
end GX6
