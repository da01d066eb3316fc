/-! text: people and tones read by both. -/
theorem frS_j {nm : Nat → Int32} {p : Nat} {by_ : Nat → Nat} {T a j : Nat} (h : frS nm p by_ T a = .inr j) : j = tkJ by_ T a := by
  unfold frS at h
  by_cases c : tkK by_ T a = 2
  · rw [if_pos c] at h
    by_cases c2 : fnN nm p (tkV by_ T a) = -1
    · rw [if_pos c2] at h; cases h; rfl
    · rw [if_neg c2] at h; cases h
  · rw [if_neg c] at h; cases h
theorem maS_j {nm : Nat → Int32} {p : Nat} {by_ : Nat → Nat} {T a j : Nat} (h : maS nm p by_ T a = .inr j) : j = a ∧ fnN nm p (tkV by_ T a) ≠ -1 := by
  unfold maS at h
  by_cases c : tkK by_ T a = 2
  · rw [if_pos c] at h
    by_cases c2 : fnN nm p (tkV by_ T a) = -1
    · rw [if_pos c2] at h; cases h
    · rw [if_neg c2] at h; cases h; exact ⟨rfl, c2⟩
  · rw [if_neg c] at h; cases h
theorem fn_e {nm nm' : Nat → Int32} {p : Nat} (h : ∀ i, i < p → nm i = nm' i) (v : Nat) : fnN nm p v = fnN nm' p v := fstI_c p 0 fun j _ hj => by rw [h j (by omega)]
theorem fr_e {nm nm' : Nat → Int32} {p : Nat} (h : ∀ i, i < p → nm i = nm' i) (by_ : Nat → Nat) (T a : Nat) : frS nm p by_ T a = frS nm' p by_ T a := by
  unfold frS
  rw [fn_e h]
theorem ma_e {nm nm' : Nat → Int32} {p : Nat} (h : ∀ i, i < p → nm i = nm' i) (by_ : Nat → Nat) (T : Nat) : maS nm p by_ T = maS nm' p by_ T := by
  funext a
  unfold maS
  rw [fn_e h]
theorem fn_m {nm : Nat → Int32} {p v : Nat} (hp : p ≤ 6) (h : fnN nm p v ≠ -1) : ∃ m, m < p ∧ fnN nm p v = nI m := by
  rcases fst_c (P := fun j => nm j = nI v) p 0 (by omega) with h1 | ⟨m, h1, h2, h3, h4⟩
  · exact absurd h1 h
  · exact ⟨m, by omega, h4⟩
theorem sA_fn {X : aW} {k j k' i' : Nat} {v : Int32} (h : k' ≠ k ∨ i' ≠ j) : fA (sA X k ((X.2 k).set j v)) k' i' = fA X k' i' := by
  unfold fA
  by_cases c : k' = k
  · subst c
    have : (sA X k' ((X.2 k').set j v)).2 k' = (X.2 k').set j v := up_s
    rw [this]
    by_cases cl : j < (X.2 k').length
    · rw [ia_set_getD cl, if_neg (by omega)]
    · rw [List.set_eq_of_length_le (by omega)]
  · have : (sA X k ((X.2 k).set j v)).2 k' = X.2 k' := sA_n c
    rw [this]
theorem sA_fv {X : aW} {k j : Nat} {v : Int32} (hj : j < (X.2 k).length) : fA (sA X k ((X.2 k).set j v)) k j = v := by
  unfold fA
  have : (sA X k ((X.2 k).set j v)).2 k = (X.2 k).set j v := up_s
  rw [this, ia_set_getD hj, if_pos rfl]
section GX5
variable (xs : List Int32) (d d' : Nat) {H h : ia_H} {x a : Nat} {D : aC} {σ : Bool} {M : aG} {by_ : Nat → Nat} {T i p n t r kn : Nat}
theorem mid_tone (hls : LnS x D σ M by_ T i p n t r kn) (ht : t < 8) (h0 : tkK by_ T i ≠ 0) (F : Nat) : ∃ rr D1 M1, ia_cal xs (d + 9) im_Reader_readTone [.ref (x + 53)] (tot H x D) = some (some (.int rr), tot H x D1) ∧ ia_qr xs (ia_cal xs (d' + 6)) im_Mod_line (F + 1) 39 [.ref a, .int (nI 1), .float 0, .float 0, .float 0] [] (pM h a M) = ia_qr xs (ia_cal xs (d' + 6)) im_Mod_line F 200 [.ref a, .float 0, .float 0, .float 0, .float 0] [] (pM h a M1) ∧ MI x D σ M by_ T i rr D1 M1 := by
  have hls' := hls
  obtain ⟨hc, hb, ha, hs, hh, h7⟩ := hls
  obtain ⟨⟨hS, hw, hF, hf0, hf1, hf2, hpc, hvp⟩, ⟨m8, m9, m10, m11⟩, rP, rN, rT, rC, rV, rL⟩ := hh
  have hiT := hs.2.2.1
  have hp6 := hS.2.2.1
  obtain ⟨rr, D1, c1, v1, v2, c2, c3⟩ := c_tone xs d (H := H) (B := D.1 3) (E := D.1 7) (L := D.1 (kL (!σ))) hc rfl hiT hS hF ht
  rw [hls'.kk] at c1
  obtain ⟨u0, u1, u2, M1, l1, l2, l3, l4, l5, l6⟩ := l_tone xs d' (h := h) (a := a) hb hs m8 hp6 m9 ht (F := F)
  have en : ∀ i, i < p → fG M 2 (6 + i) = fG (D.1 (kS (!σ))) 0 i := fun i hi => (rP i hi).1
  rw [ma_e en] at l5 l6
  refine ⟨rr, D1, M1, c1, l1, ?_⟩
  have ln5 : (M.2.1 5).length = 16 := hb.2.2 5 (by decide)
  have ln6 : (M.2.1 6).length = 16 := hb.2.2 6 (by decide)
  have ln7 : (M.2.1 7).length = 16 := hb.2.2 7 (by decide)
  have ln1 : (M.2.1 1).length = 16 := hb.2.2 1 (by decide)
  have rs : rsc M M1 := (((((rsc_td (w := 1)).t (rsc_up (k := 5) (j := 8 + t) (by decide) (by decide) (by show 8 ≤ 8 + t; omega) (by show 8 + t < (M.2.1 5).length; omega))).t (rsc_up (k := 6) (j := 8 + t) (by decide) (by decide) (by show 8 ≤ 8 + t; omega) (by show 8 + t < (M.2.1 6).length; omega))).t (rsc_up (k := 7) (j := 8 + t) (by decide) (by decide) (by show 8 ≤ 8 + t; omega) (by show 8 + t < (M.2.1 7).length; omega))).t (rsc_up (k := 1) (j := 9) (by decide) (by decide) (by decide) (by show 9 < (M.2.1 1).length; omega))).t (rsc_tsc l2)
  have bm : bM (D.1 0) M1 by_ T := l2.b (bM_up (bM_up (bM_up (bM_up (td_b hb) (by decide)) (by decide)) (by decide)) (by decide))
  have on1 := (tk_on hc.tk i hiT)
  cases e : nb (nuS by_ T 1 16) (nb (nuS by_ T 0 99) (nb (fun i => .inr (tkJ by_ T i)) (maS (fG (D.1 (kS (!σ))) 0) p by_ T (tkJ by_ T i)))) with
  | inl f =>
    rw [e] at c3 l5
    obtain ⟨c4, j, c5⟩ := c3
    rw [c4, c5]
    exact MI_bad hls' l5.2.2.1 l5.2.2.2 rs bm l5
  | inr j =>
    rw [e] at c3 l5
    obtain ⟨c4, c5, c6⟩ := c3
    cases e0 : maS (fG (D.1 (kS (!σ))) 0) p by_ T (tkJ by_ T i) with
    | inl f => rw [e0] at e; cases e
    | inr j0 =>
      rw [e0] at e
      obtain ⟨z1, z2⟩ := maS_j e0
      subst z1
      cases e1 : nuS by_ T 0 99 (tkJ by_ T (tkJ by_ T i)) with
      | inl f => rw [show nb (fun i => .inr (tkJ by_ T i)) (.inr (tkJ by_ T i)) = (.inr (tkJ by_ T (tkJ by_ T i)) : Sum (Nat × Nat) Nat) from rfl, show nb (nuS by_ T 0 99) (.inr (tkJ by_ T (tkJ by_ T i))) = nuS by_ T 0 99 (tkJ by_ T (tkJ by_ T i)) from rfl, e1] at e; cases e
      | inr j1 =>
        have e2 : nuS by_ T 1 16 j1 = .inr j := by
          rw [show nb (fun i => .inr (tkJ by_ T i)) (.inr (tkJ by_ T i)) = (.inr (tkJ by_ T (tkJ by_ T i)) : Sum (Nat × Nat) Nat) from rfl, show nb (nuS by_ T 0 99) (.inr (tkJ by_ T (tkJ by_ T i))) = nuS by_ T 0 99 (tkJ by_ T (tkJ by_ T i)) from rfl, e1] at e
          exact e
        obtain ⟨a1, a2, a3, a4⟩ := nuS_j e1
        obtain ⟨b1, b2, b3, b4⟩ := nuS_j e2
        have on2 := tk_on hc.tk (tkJ by_ T i) on1.2.2.1
        have on3 := tk_on hc.tk (tkJ by_ T (tkJ by_ T i)) on2.2.2.1
        have on4 := tk_on hc.tk j1 (by rw [a1]; exact on3.2.2.1)
        have hij := on1.2.2.2.1 h0
        obtain ⟨w1, w2⟩ := c2 e0 j1 e1
        obtain ⟨x0, x1⟩ := l6 (tkJ by_ T i) e0
        obtain ⟨x1, x2⟩ := x1 j1 e1
        have x2 := x2 j e2
        rw [fn_e en] at x0
        obtain ⟨m, hm, em⟩ := fn_m hp6 z2
        rw [w1, w2, em] at c6
        rw [x0, x1, x2, em] at l2
        rw [c4, c6]
        refine MI_ok hls' (p' := p) (n' := n) (t' := t + 1) (r' := r) (kn' := kn) (by rw [b1]; omega) ?_ bm rfl l5 ?_ rs (l2.2 3 (by omega)) ⟨rfl, rfl⟩
        · refine ⟨fun k h3 h6 h7' hS' hL' => k4_n h6 h3 h7' hL', fun k hk => uW_n hk, rfl, rfl, rfl, ?_, h7, rfl⟩
          rw [k4_S]; rfl
        · rw [k4_S, k4_L, k4_2, uW_s]
          show hR (D.1 (kS (!σ))) (D.1 (kL (!σ))) _ M1 p n (t + 1) r kn
          obtain ⟨f2, f3, f4, f5, fl1, fl2, fl3⟩ := hF
          generalize D.2 (kF (!σ)) = X at *
          have l2' : (X.2 2).length = 8 := fl2 2 (by decide) (by decide)
          have l3' : (X.2 3).length = 8 := fl2 3 (by decide) (by decide)
          have l4' : (X.2 4).length = 8 := fl2 4 (by decide) (by decide)
          have l5' : (X.2 5).length = 8 := fl2 5 (by decide) (by decide)
          have fX : ∀ k i', (k < 2 ∨ 5 < k ∨ i' ≠ t) → fA (adT X t (nI m) (nI (tkV by_ T (tkJ by_ T (tkJ by_ T i)))) (nI (tkV by_ T j1))) k i' = fA X k i' := fun k i' hk => by
            show fA (sA (sA (sA (sA X 2 ((X.2 2).set t (nI m))) 3 (((sA X 2 ((X.2 2).set t (nI m))).2 3).set t (nI (tkV by_ T (tkJ by_ T (tkJ by_ T i)))))) 4 (((sA (sA X 2 ((X.2 2).set t (nI m))) 3 (((sA X 2 ((X.2 2).set t (nI m))).2 3).set t (nI (tkV by_ T (tkJ by_ T (tkJ by_ T i)))))).2 4).set t (nI (tkV by_ T j1)))) 5 (((sA (sA (sA X 2 ((X.2 2).set t (nI m))) 3 (((sA X 2 ((X.2 2).set t (nI m))).2 3).set t (nI (tkV by_ T (tkJ by_ T (tkJ by_ T i)))))) 4 (((sA (sA X 2 ((X.2 2).set t (nI m))) 3 (((sA X 2 ((X.2 2).set t (nI m))).2 3).set t (nI (tkV by_ T (tkJ by_ T (tkJ by_ T i)))))).2 4).set t (nI (tkV by_ T j1)))).2 5).set t 0)) k i' = _
            rw [sA_fn (by omega), sA_fn (by omega), sA_fn (by omega), sA_fn (by omega)]
          have gX : fA (adT X t (nI m) (nI (tkV by_ T (tkJ by_ T (tkJ by_ T i)))) (nI (tkV by_ T j1))) 2 t = nI m ∧ fA (adT X t (nI m) (nI (tkV by_ T (tkJ by_ T (tkJ by_ T i)))) (nI (tkV by_ T j1))) 3 t = nI (tkV by_ T (tkJ by_ T (tkJ by_ T i))) ∧ fA (adT X t (nI m) (nI (tkV by_ T (tkJ by_ T (tkJ by_ T i)))) (nI (tkV by_ T j1))) 4 t = nI (tkV by_ T j1) ∧ fA (adT X t (nI m) (nI (tkV by_ T (tkJ by_ T (tkJ by_ T i)))) (nI (tkV by_ T j1))) 5 t = 0 := by
            refine ⟨?_, ?_, ?_, ?_⟩
            · show ((X.2 2).set t (nI m)).getD t 0 = _; rw [ia_set_getD (by omega), if_pos rfl]
            · show ((X.2 3).set t _).getD t 0 = _; rw [ia_set_getD (by omega), if_pos rfl]
            · show ((X.2 4).set t _).getD t 0 = _; rw [ia_set_getD (by omega), if_pos rfl]
            · show ((X.2 5).set t _).getD t 0 = _; rw [ia_set_getD (by omega), if_pos rfl]
          have iX : (adT X t (nI m) (nI (tkV by_ T (tkJ by_ T (tkJ by_ T i)))) (nI (tkV by_ T j1))).1 0 = X.1 0 ∧ (adT X t (nI m) (nI (tkV by_ T (tkJ by_ T (tkJ by_ T i)))) (nI (tkV by_ T j1))).1 1 = X.1 1 ∧ (adT X t (nI m) (nI (tkV by_ T (tkJ by_ T (tkJ by_ T i)))) (nI (tkV by_ T j1))).1 2 = nI (t + 1) ∧ (adT X t (nI m) (nI (tkV by_ T (tkJ by_ T (tkJ by_ T i)))) (nI (tkV by_ T j1))).1 3 = X.1 3 := ⟨rfl, rfl, rfl, rfl⟩
          have lX : (∀ k, k < 2 → ((adT X t (nI m) (nI (tkV by_ T (tkJ by_ T (tkJ by_ T i)))) (nI (tkV by_ T j1))).2 k).length = 6) ∧ (∀ k, 2 ≤ k → k < 6 → ((adT X t (nI m) (nI (tkV by_ T (tkJ by_ T (tkJ by_ T i)))) (nI (tkV by_ T j1))).2 k).length = 8) ∧ ∀ k, 6 ≤ k → k < 12 → ((adT X t (nI m) (nI (tkV by_ T (tkJ by_ T (tkJ by_ T i)))) (nI (tkV by_ T j1))).2 k).length = 10 := by
            have base : lnX X := ⟨fl1, fl2, fl3⟩
            exact lnX_sA (lnX_sA (lnX_sA (lnX_sA base (List.length_set ..)) (List.length_set ..)) (List.length_set ..)) (List.length_set ..)
          generalize adT X t (nI m) (nI (tkV by_ T (tkJ by_ T (tkJ by_ T i)))) (nI (tkV by_ T j1)) = Y at *
          have mM : ∀ k i', (k ≠ 5 ∨ i' ≠ 8 + t) → (k ≠ 6 ∨ i' ≠ 8 + t) → (k ≠ 7 ∨ i' ≠ 8 + t) → (k ≠ 1 ∨ i' ≠ 9) → fG M1 k i' = fG M k i' := fun k i' h1 h2 h3 h4 => by
            rw [l2.f, upR_n h4, upR_n h3, upR_n h2, upR_n h1]; rfl
          have n5 : fG M1 5 (8 + t) = nI m := by rw [l2.f, upR_n (by omega), upR_n (by omega), upR_n (by omega), upR_v (by show 8 + t < (M.2.1 5).length; omega)]
          have n6 : fG M1 6 (8 + t) = nI (tkV by_ T (tkJ by_ T (tkJ by_ T i))) := by rw [l2.f, upR_n (by omega), upR_n (by omega), upR_v (by show 8 + t < (M.2.1 6).length; omega)]
          have n7 : fG M1 7 (8 + t) = nI (tkV by_ T j1) := by rw [l2.f, upR_n (by omega), upR_v (by show 8 + t < (M.2.1 7).length; omega)]
          have n9 : fG M1 1 9 = nI (t + 1) := by rw [l2.f, upR_v (by show 9 < (M.2.1 1).length; omega)]
          obtain ⟨y0, y1, y2, y3⟩ := iX
          refine ⟨⟨hS, hw, ⟨y2, by rw [y3]; exact f3, by omega, f5, lX⟩, by rw [y0]; exact hf0, by rw [y1]; exact hf1, fun i' hi' => by rw [fX 1 i' (by omega)]; exact hf2 i' hi', fun i' => ?_, hvp⟩, ⟨by rw [mM 1 8 (by omega) (by omega) (by omega) (by omega)]; exact m8, n9, by rw [mM 1 10 (by omega) (by omega) (by omega) (by omega)]; exact m10, by rw [mM 1 11 (by omega) (by omega) (by omega) (by omega)]; exact m11⟩, ?_, ?_, ?_, ?_, ?_, ?_⟩
          · refine ⟨by rw [fX 0 i' (by omega)]; exact (hpc i').1, ?_⟩
            by_cases ci : i' = t
            · rw [ci]; exact ⟨tkV by_ T j1, b4, gX.2.2.1⟩
            · rw [fX 4 i' (by omega)]; exact (hpc i').2
          · intro i' hi'
            rw [mM 2 _ (by omega) (by omega) (by omega) (by omega), mM 3 _ (by omega) (by omega) (by omega) (by omega), mM 4 _ (by omega) (by omega) (by omega) (by omega), fX 0 i' (by omega)]
            exact rP i' hi'
          · exact rN.m (fun k hk i' _ => mM k _ (by omega) (by omega) (by omega) (by omega))
          · intro i' hi'
            by_cases ci : i' = t
            · rw [ci, n5, n6, n7, gX.1, gX.2.1, gX.2.2.1, gX.2.2.2]
              exact ⟨rfl, rfl, rfl, rfl, m, hm, rfl⟩
            · rw [mM 5 _ (by omega) (by omega) (by omega) (by omega), mM 6 _ (by omega) (by omega) (by omega) (by omega), mM 7 _ (by omega) (by omega) (by omega) (by omega), fX 2 i' (by omega), fX 3 i' (by omega), fX 4 i' (by omega), fX 5 i' (by omega)]
              exact rT i' (by omega)
          · intro i' hi'
            rw [mM 10 _ (by omega) (by omega) (by omega) (by omega), mM 11 _ (by omega) (by omega) (by omega) (by omega), mM 12 _ (by omega) (by omega) (by omega) (by omega), mM 13 _ (by omega) (by omega) (by omega) (by omega), fX 6 i' (by omega), fX 7 i' (by omega), fX 8 i' (by omega), fX 9 i' (by omega), fX 10 i' (by omega), fX 11 i' (by omega)]
            exact rC i' hi'
          · exact rV.m (w := 1) (by omega) (by omega) (l2.2 2 (by omega)) (mM 1 12 (by omega) (by omega) (by omega) (by omega)) (mM 1 13 (by omega) (by omega) (by omega) (by omega))
          · exact rL.m (w := 1) (by omega) (l2.2 2 (by omega)) (l2.2 13 (by omega)) (l2.2 14 (by omega)) (mM 1 15 (by omega) (by omega) (by omega) (by omega)) (fun k k1 k2 i' => mM k i' (by omega) (by omega) (by omega) (by omega))
end GX5
