/-! text: calls read by both. -/
section GX7
variable (xs : List Int32) (d d' : Nat) {H h : ia_H} {x a : Nat} {D : aC} {σ : Bool} {M : aG} {by_ : Nat → Nat} {T i p n t r kn : Nat}
theorem mid_ring (hls : LnS x D σ M by_ T i p n t r kn) (hr : r < 10) (h0 : tkK by_ T i ≠ 0) (F : Nat) : ∃ rr D1 M1, ia_cal xs (d + 9) im_Reader_readRing [.ref (x + 53)] (tot H x D) = some (some (.int rr), tot H x D1) ∧ ia_qr xs (ia_cal xs (d' + 7)) im_Mod_line (F + 1) 39 [.ref a, .int (nI 3), .float 0, .float 0, .float 0] [] (pM h a M) = ia_qr xs (ia_cal xs (d' + 7)) im_Mod_line F 200 [.ref a, .float 0, .float 0, .float 0, .float 0] [] (pM h a M1) ∧ MI x D σ M by_ T i rr D1 M1 := by
  have hls' := hls
  obtain ⟨hc, hb, ha, hs, hh, h7⟩ := hls
  obtain ⟨⟨hS, hw, hF, hf0, hf1, hf2, hpc, hvp⟩, ⟨m8, m9, m10, m11⟩, rP, rN, rT, rC, rV, rL⟩ := hh
  have hiT := hs.2.2.1
  have hp6 := hS.2.2.1
  obtain ⟨rr, D1, c1, v2, v3, c2, c3⟩ := c_ring xs d (H := H) (B := D.1 3) (E := D.1 7) (L := D.1 (kL (!σ))) hc rfl hiT hS hF hr
  rw [hls'.kk] at c1
  obtain ⟨u0, u1, u2, u3, M1, l1, l2, l3, l4, l5, l6⟩ := l_ring xs d' (h := h) (a := a) hb hs m8 hp6 m11 hr (F := F)
  have en : ∀ i, i < p → fG M 2 (6 + i) = fG (D.1 (kS (!σ))) 0 i := fun i hi => (rP i hi).1
  rw [ma_e en] at l5 l6
  refine ⟨rr, D1, M1, c1, l1, ?_⟩
  have ln10 : (M.2.1 10).length = 20 := hb.2.2 10 (by decide)
  have ln11 : (M.2.1 11).length = 20 := hb.2.2 11 (by decide)
  have ln12 : (M.2.1 12).length = 20 := hb.2.2 12 (by decide)
  have ln13 : (M.2.1 13).length = 20 := hb.2.2 13 (by decide)
  have ln1 : (M.2.1 1).length = 16 := hb.2.2 1 (by decide)
  have rs : rsc M M1 := ((((((rsc_td (w := 3)).t (rsc_up (k := 10) (j := 10 + r) (by decide) (by decide) (by show 10 ≤ 10 + r; omega) (by show 10 + r < (M.2.1 10).length; omega))).t (rsc_up (k := 11) (j := 10 + r) (by decide) (by decide) (by show 10 ≤ 10 + r; omega) (by show 10 + r < (M.2.1 11).length; omega))).t (rsc_up (k := 12) (j := 10 + r) (by decide) (by decide) (by show 10 ≤ 10 + r; omega) (by show 10 + r < (M.2.1 12).length; omega))).t (rsc_up (k := 13) (j := 10 + r) (by decide) (by decide) (by show 10 ≤ 10 + r; omega) (by show 10 + r < (M.2.1 13).length; omega))).t (rsc_up (k := 1) (j := 11) (by decide) (by decide) (by decide) (by show 11 < (M.2.1 1).length; omega))).t (rsc_tsc l2)
  have bm : bM (D.1 0) M1 by_ T := l2.b (bM_up (bM_up (bM_up (bM_up (bM_up (td_b hb) (by decide)) (by decide)) (by decide)) (by decide)) (by decide))
  have on1 := (tk_on hc.tk i hiT)
  have es : nb (seS by_ T u0 u1) (nb (maS (fG (D.1 (kS (!σ))) 0) p by_ T) (nb (fun i => .inr (tkJ by_ T i)) (maS (fG (D.1 (kS (!σ))) 0) p by_ T (tkJ by_ T i)))) = rgS (fG (D.1 (kS (!σ))) 0) p by_ T i := by
    unfold rgS
    cases e0 : maS (fG (D.1 (kS (!σ))) 0) p by_ T (tkJ by_ T i) with
    | inl f => rfl
    | inr j0 =>
      obtain ⟨y0, y1⟩ := l6 j0 e0
      obtain ⟨z1, z2⟩ := maS_j e0
      rw [fn_e en] at y0
      show nb (seS by_ T u0 u1) (maS (fG (D.1 (kS (!σ))) 0) p by_ T (tkJ by_ T j0)) = nb _ (maS (fG (D.1 (kS (!σ))) 0) p by_ T (tkJ by_ T j0))
      cases e1 : maS (fG (D.1 (kS (!σ))) 0) p by_ T (tkJ by_ T j0) with
      | inl f => rfl
      | inr j1 =>
        obtain ⟨y2, -⟩ := y1 j1 e1
        rw [fn_e en, z1] at y2
        rw [y0, y2]
  rw [es] at l5
  cases e : nb (nuS by_ T 1 9) (nb (nuS by_ T 0 99) (nb (fun i => .inr (tkJ by_ T i)) (rgS (fG (D.1 (kS (!σ))) 0) p by_ T i))) with
  | inl f =>
    rw [e] at c3 l5
    obtain ⟨c4, j, c5⟩ := c3
    rw [c4, c5]
    exact MI_bad hls' l5.2.2.1 l5.2.2.2 rs bm l5
  | inr j =>
    rw [e] at c3 l5
    obtain ⟨c4, c5, c6⟩ := c3
    cases eg : rgS (fG (D.1 (kS (!σ))) 0) p by_ T i with
    | inl f => rw [eg] at e; cases e
    | inr j3 =>
      rw [eg] at e es
      cases e0 : maS (fG (D.1 (kS (!σ))) 0) p by_ T (tkJ by_ T i) with
      | inl f => rw [e0] at es; cases es
      | inr j0 =>
        rw [e0] at es
        obtain ⟨z1, z2⟩ := maS_j e0
        have es' : nb (seS by_ T u0 u1) (maS (fG (D.1 (kS (!σ))) 0) p by_ T (tkJ by_ T j0)) = .inr j3 := es
        cases e1 : maS (fG (D.1 (kS (!σ))) 0) p by_ T (tkJ by_ T j0) with
        | inl f => rw [e1] at es'; cases es'
        | inr j2 =>
          rw [e1] at es'
          obtain ⟨z3, z4⟩ := maS_j e1
          have es2 : seS by_ T u0 u1 j2 = .inr j3 := es'
          have z5 : j3 = j2 := by
            unfold seS at es2
            by_cases c : u1 = u0
            · rw [if_pos c] at es2; cases es2
            · rw [if_neg c] at es2; cases es2; rfl
          obtain ⟨y0, y1⟩ := l6 j0 e0
          obtain ⟨y2, y3⟩ := y1 j2 e1
          rw [fn_e en] at y0 y2
          cases e4 : nuS by_ T 0 99 (tkJ by_ T j3) with
          | inl f =>
            rw [show nb (fun i => .inr (tkJ by_ T i)) (.inr j3) = (.inr (tkJ by_ T j3) : Sum (Nat × Nat) Nat) from rfl, show nb (nuS by_ T 0 99) (.inr (tkJ by_ T j3)) = nuS by_ T 0 99 (tkJ by_ T j3) from rfl, e4] at e
            cases e
          | inr j4 =>
            have e5 : nuS by_ T 1 9 j4 = .inr j := by
              rw [show nb (fun i => .inr (tkJ by_ T i)) (.inr j3) = (.inr (tkJ by_ T j3) : Sum (Nat × Nat) Nat) from rfl, show nb (nuS by_ T 0 99) (.inr (tkJ by_ T j3)) = nuS by_ T 0 99 (tkJ by_ T j3) from rfl, e4] at e
              exact e
            obtain ⟨a1, a2, a3, a4⟩ := nuS_j e4
            obtain ⟨b1, b2, b3, b4⟩ := nuS_j e5
            obtain ⟨x2, x3⟩ := y3 j3 es2 j4 e4
            have x3 := x3 j e5
            obtain ⟨w2, w3⟩ := c2 j3 eg j4 e4
            have on2 := tk_on hc.tk j0 (by rw [z1]; exact on1.2.2.1)
            have on3 := tk_on hc.tk j3 (by rw [z5, z3]; exact on2.2.2.1)
            have on4 := tk_on hc.tk (tkJ by_ T j3) on3.2.2.1
            have on5 := tk_on hc.tk j4 (by rw [a1]; exact on4.2.2.1)
            have hij := on1.2.2.2.1 h0
            have hlt : i < j := by
              have q1 : i < j0 := by rw [z1]; exact hij
              have q2 : j0 ≤ j3 := by rw [z5, z3]; exact on2.2.2.2.2
              have q3 : j3 ≤ tkJ by_ T j3 := on3.2.2.2.2
              have q4 : tkJ by_ T j3 ≤ j4 := by rw [a1]; exact on4.2.2.2.2
              have q5 : j4 ≤ j := by rw [b1]; exact on5.2.2.2.2
              omega
            obtain ⟨m1, hm1, em1⟩ := fn_m hp6 z2
            obtain ⟨m2, hm2, em2⟩ := fn_m hp6 z4
            rw [z1] at em2
            rw [w2, w3, em1, em2] at c6
            rw [em1] at y0
            rw [z1, em2] at y2
            rw [y0, y2, x2, x3] at l2
            rw [c4, c6]
            generalize tkV by_ T (tkJ by_ T j3) = q2 at *
            generalize tkV by_ T j4 = q3 at *
            refine MI_ok hls' (p' := p) (n' := n) (t' := t) (r' := r + 1) (kn' := kn) hlt ?_ bm rfl l5 ?_ rs (l2.2 3 (by omega)) ⟨rfl, rfl⟩
            · refine ⟨fun k h3 h6 h7' hS' hL' => k4_n h6 h3 h7' hL', fun k hk => uW_n hk, rfl, rfl, rfl, ?_, h7, rfl⟩
              rw [k4_S]; rfl
            · rw [k4_S, k4_L, k4_2, uW_s]
              show hR (D.1 (kS (!σ))) (D.1 (kL (!σ))) _ M1 p n t (r + 1) kn
              obtain ⟨f2, f3, f4, f5, fl1, fl2, fl3⟩ := hF
              generalize D.2 (kF (!σ)) = X at *
              have l6' := fl3 6 (by decide) (by decide)
              have l7' := fl3 7 (by decide) (by decide)
              have l8' := fl3 8 (by decide) (by decide)
              have l9' := fl3 9 (by decide) (by decide)
              have l10' := fl3 10 (by decide) (by decide)
              have l11' := fl3 11 (by decide) (by decide)
              have rowX : ∀ k, (adR X r (nI m1) (nI m2) (nI q2) (nI q3)).2 k = if k = 11 then (X.2 11).set r 0 else if k = 10 then (X.2 10).set r 0 else if k = 9 then (X.2 9).set r (nI q3) else if k = 8 then (X.2 8).set r (nI q2) else if k = 7 then (X.2 7).set r (nI m2) else if k = 6 then (X.2 6).set r (nI m1) else X.2 k := fun k => rfl
              have fX : ∀ k i', (k < 6 ∨ 11 < k ∨ i' ≠ r) → fA (adR X r (nI m1) (nI m2) (nI q2) (nI q3)) k i' = fA X k i' := fun k i' hk => by
                have st : ∀ l : List Int32, l.length = 10 → ∀ v, i' ≠ r → (l.set r v).getD i' 0 = l.getD i' 0 := fun l hl v hi => by rw [ia_set_getD (by omega), if_neg hi]
                unfold fA
                rw [rowX]
                by_cases c11 : k = 11
                · subst c11; exact st _ l11' _ (by omega)
                · rw [if_neg c11]
                  by_cases c10 : k = 10
                  · subst c10; exact st _ l10' _ (by omega)
                  · rw [if_neg c10]
                    by_cases c9 : k = 9
                    · subst c9; exact st _ l9' _ (by omega)
                    · rw [if_neg c9]
                      by_cases c8 : k = 8
                      · subst c8; exact st _ l8' _ (by omega)
                      · rw [if_neg c8]
                        by_cases c7 : k = 7
                        · subst c7; exact st _ l7' _ (by omega)
                        · rw [if_neg c7]
                          by_cases c6' : k = 6
                          · subst c6'; exact st _ l6' _ (by omega)
                          · rw [if_neg c6']
              have gX : ∀ l : List Int32, l.length = 10 → ∀ v, (l.set r v).getD r 0 = v := fun l hl v => by rw [ia_set_getD (by omega), if_pos rfl]
              have g6 : fA (adR X r (nI m1) (nI m2) (nI q2) (nI q3)) 6 r = nI m1 := gX _ l6' _
              have g7 : fA (adR X r (nI m1) (nI m2) (nI q2) (nI q3)) 7 r = nI m2 := gX _ l7' _
              have g8 : fA (adR X r (nI m1) (nI m2) (nI q2) (nI q3)) 8 r = nI q2 := gX _ l8' _
              have g9 : fA (adR X r (nI m1) (nI m2) (nI q2) (nI q3)) 9 r = nI q3 := gX _ l9' _
              have g10 : fA (adR X r (nI m1) (nI m2) (nI q2) (nI q3)) 10 r = 0 := gX _ l10' _
              have g11 : fA (adR X r (nI m1) (nI m2) (nI q2) (nI q3)) 11 r = 0 := gX _ l11' _
              have lX : lnX (adR X r (nI m1) (nI m2) (nI q2) (nI q3)) := by
                have base : lnX X := ⟨fl1, fl2, fl3⟩
                exact lnX_sA (lnX_sA (lnX_sA (lnX_sA (lnX_sA (lnX_sA base (List.length_set ..)) (List.length_set ..)) (List.length_set ..)) (List.length_set ..)) (List.length_set ..)) (List.length_set ..)
              have y0' : (adR X r (nI m1) (nI m2) (nI q2) (nI q3)).1 0 = X.1 0 := rfl
              have y1' : (adR X r (nI m1) (nI m2) (nI q2) (nI q3)).1 1 = X.1 1 := rfl
              have y2' : (adR X r (nI m1) (nI m2) (nI q2) (nI q3)).1 2 = X.1 2 := rfl
              have y3' : (adR X r (nI m1) (nI m2) (nI q2) (nI q3)).1 3 = nI (r + 1) := rfl
              generalize adR X r (nI m1) (nI m2) (nI q2) (nI q3) = Y at *
              have mM : ∀ k i', (k < 10 ∨ 13 < k ∨ i' ≠ 10 + r) → (k ≠ 1 ∨ i' ≠ 11) → fG M1 k i' = fG M k i' := fun k i' h1 h4 => by
                rw [l2.f, upR_n h4, upR_n (by omega), upR_n (by omega), upR_n (by omega), upR_n (by omega)]; rfl
              have n10 : fG M1 10 (10 + r) = nI m1 := by rw [l2.f, upR_n (by omega), upR_n (by omega), upR_n (by omega), upR_n (by omega), upR_v (by show 10 + r < (M.2.1 10).length; omega)]
              have n11 : fG M1 11 (10 + r) = nI m2 := by rw [l2.f, upR_n (by omega), upR_n (by omega), upR_n (by omega), upR_v (by show 10 + r < (M.2.1 11).length; omega)]
              have n12 : fG M1 12 (10 + r) = nI q2 := by rw [l2.f, upR_n (by omega), upR_n (by omega), upR_v (by show 10 + r < (M.2.1 12).length; omega)]
              have n13 : fG M1 13 (10 + r) = nI q3 := by rw [l2.f, upR_n (by omega), upR_v (by show 10 + r < (M.2.1 13).length; omega)]
              have n1 : fG M1 1 11 = nI (r + 1) := by rw [l2.f, upR_v (by show 11 < (M.2.1 1).length; omega)]
              refine ⟨⟨hS, hw, ⟨by rw [y2']; exact f2, y3', f4, by omega, lX⟩, by rw [y0']; exact hf0, by rw [y1']; exact hf1, fun i' hi' => by rw [fX 1 i' (by omega)]; exact hf2 i' hi', fun i' => ?_, hvp⟩, ⟨by rw [mM 1 8 (by omega) (by omega)]; exact m8, by rw [mM 1 9 (by omega) (by omega)]; exact m9, by rw [mM 1 10 (by omega) (by omega)]; exact m10, n1⟩, ?_, ?_, ?_, ?_, ?_, ?_⟩
              · exact ⟨by rw [fX 0 i' (by omega)]; exact (hpc i').1, by rw [fX 4 i' (by omega)]; exact (hpc i').2⟩
              · intro i' hi'
                rw [mM 2 _ (by omega) (by omega), mM 3 _ (by omega) (by omega), mM 4 _ (by omega) (by omega), fX 0 i' (by omega)]
                exact rP i' hi'
              · exact rN.m (fun k hk i' _ => mM k _ (by omega) (by omega))
              · intro i' hi'
                rw [mM 5 _ (by omega) (by omega), mM 6 _ (by omega) (by omega), mM 7 _ (by omega) (by omega), fX 2 i' (by omega), fX 3 i' (by omega), fX 4 i' (by omega), fX 5 i' (by omega)]
                exact rT i' hi'
              · intro i' hi'
                by_cases ci : i' = r
                · rw [ci, n10, n11, n12, n13, g6, g7, g8, g9, g10, g11]
                  exact ⟨rfl, rfl, rfl, rfl, rfl, rfl, ⟨m1, hm1, rfl⟩, ⟨m2, hm2, rfl⟩, ⟨q2, by omega, rfl⟩, ⟨q3, by omega, rfl⟩⟩
                · rw [mM 10 _ (by omega) (by omega), mM 11 _ (by omega) (by omega), mM 12 _ (by omega) (by omega), mM 13 _ (by omega) (by omega), fX 6 i' (by omega), fX 7 i' (by omega), fX 8 i' (by omega), fX 9 i' (by omega), fX 10 i' (by omega), fX 11 i' (by omega)]
                  exact rC i' (by omega)
              · exact rV.m (w := 3) (by omega) (by omega) (l2.2 2 (by omega)) (mM 1 12 (by omega) (by omega)) (mM 1 13 (by omega) (by omega))
              · exact rL.m (w := 3) (by omega) (l2.2 2 (by omega)) (l2.2 13 (by omega)) (l2.2 14 (by omega)) (mM 1 15 (by omega) (by omega)) (fun k k1 k2 i' => mM k i' (by omega) (by omega))
end GX7
