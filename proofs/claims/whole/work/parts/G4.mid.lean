/-! text: lines, tries and seed read by both. -/
section GX4
variable (xs : List Int32) (d d' : Nat) {H h : ia_H} {x a : Nat} {D : aC} {σ : Bool} {M : aG} {by_ : Nat → Nat} {T i p n t r kn : Nat}
theorem mid_lines (hls : LnS x D σ M by_ T i p n t r kn) (hu : (D.1 (kS (!σ))).1 2 = -1) (h0 : tkK by_ T i ≠ 0) (F : Nat) : ∃ rr D1 M1, ia_cal xs (d + 9) im_Reader_readLines [.ref (x + 53)] (tot H x D) = some (some (.int rr), tot H x D1) ∧ ia_qr xs (ia_cal xs (d' + 5)) im_Mod_line (F + 1) 39 [.ref a, .int (nI 4), .float 0, .float 0, .float 0] [] (pM h a M) = ia_qr xs (ia_cal xs (d' + 5)) im_Mod_line F 200 [.ref a, .float 0, .float 0, .float 0, .float 0] [] (pM h a M1) ∧ MI x D σ M by_ T i rr D1 M1 := by
  have hls' := hls
  obtain ⟨hc, hb, ha, hs, hh, h7⟩ := hls
  obtain ⟨⟨hS, hw, hF, hf0, hf1, hf2, hpc, hvp⟩, ⟨m8, m9, m10, m11⟩, rP, rN, rT, rC, rV, rL⟩ := hh
  have hiT := hs.2.2.1
  obtain ⟨rr, D1, c1, c3⟩ := c_lines xs d (H := H) (B := D.1 3) (E := D.1 7) (L := D.1 (kL (!σ))) hc rfl hiT hu
  rw [hls'.kk] at c1
  obtain ⟨u1, M1, l1, l2, l3, l5, l6⟩ := l_num xs d' (h := h) (a := a) hb hs (w := 4) (lo := 1) (hi := 6) (by omega) (F := F)
  refine ⟨rr, D1, M1, c1, l1, ?_⟩
  have ln1 : (M.2.1 1).length = 16 := hb.2.2 1 (by decide)
  have rs : rsc M M1 := ((rsc_td (w := 4)).t (rsc_up (k := 1) (j := 12) (by decide) (by decide) (by decide) (by show 12 < (M.2.1 1).length; omega))).t (rsc_tsc l2)
  have bm : bM (D.1 0) M1 by_ T := l2.b (bM_up (td_b hb) (by decide))
  have on1 := (tk_on hc.tk i hiT)
  cases e : nuS by_ T 1 6 (tkJ by_ T i) with
  | inl f =>
    rw [e] at c3 l5
    obtain ⟨c4, j, c5⟩ := c3
    rw [c4, c5]
    exact MI_bad hls' l5.2.2.1 l5.2.2.2 rs bm l5
  | inr j =>
    rw [e] at c3 l5
    obtain ⟨c4, c5, c6⟩ := c3
    obtain ⟨a1, a2, a3, a4⟩ := nuS_j e
    have on2 := tk_on hc.tk (tkJ by_ T i) on1.2.2.1
    have hij := on1.2.2.2.1 h0
    have x1 := l6 j e
    rw [x1] at l2
    rw [c4, c6]
    refine MI_ok hls' (p' := p) (n' := n) (t' := t) (r' := r) (kn' := kn) (by rw [a1]; omega) ?_ bm rfl l5 ?_ rs (l2.2 3 (by omega)) ⟨rfl, rfl⟩
    · refine ⟨fun k h3 h6 h7' hS' hL' => ?_, fun k _ => rfl, rfl, rfl, rfl, ?_, h7, rfl⟩
      · rw [k4_n h6 h3 h7' hL', uG_n hS']
      · rw [k4_S, uG_s]; rfl
    · rw [k4_S, k4_L, uG_s]
      generalize hS0 : D.1 (kS (!σ)) = S at *
      have mM : ∀ k i', (k ≠ 1 ∨ i' ≠ 12) → fG M1 k i' = fG M k i' := fun k i' h3 => by
        rw [l2.f, upR_n h3]; rfl
      have mV : fG M1 1 12 = nI (tkV by_ T (tkJ by_ T i)) := by
        rw [l2.f, upR_v (by show 12 < (M.2.1 1).length; omega)]
      have e2 : M1.1 2 = M.1 2 ||| ((1 : Int32) <<< (nI 4 &&& 31)) := l2.2 2 (by omega)
      have tb : ∀ k, k < 19 → (tB (M1.1 2) k ↔ tB (M.1 2) k ∨ k = 4) := fun k hk => by rw [e2]; exact tB_or _ k 4 hk (by decide)
      have tbn : ∀ k, k < 19 → k ≠ 4 → (tB (M1.1 2) k ↔ tB (M.1 2) k) := fun k hk hn => by rw [tb k hk]; exact ⟨fun z => z.elim id (fun z => absurd z hn), Or.inl⟩
      refine ⟨⟨hS, hw, hF, hf0, hf1, hf2, hpc, hvp⟩, ⟨by rw [mM 1 8 (by omega)]; exact m8, by rw [mM 1 9 (by omega)]; exact m9, by rw [mM 1 10 (by omega)]; exact m10, by rw [mM 1 11 (by omega)]; exact m11⟩, ?_, ?_, ?_, ?_, ?_, ?_⟩
      · exact rP.m (fun i' _ => mM 2 _ (by omega)) (fun i' _ => mM 3 _ (by omega)) (fun i' _ => mM 4 _ (by omega))
      · exact rN.m (fun k hk i' _ => mM k _ (by omega))
      · exact rT.m (fun k k1 k2 i' _ => mM k _ (by omega))
      · exact rC.m (fun k k1 k2 i' _ => mM k _ (by omega))
      · obtain ⟨v4, v5, v6⟩ := rV
        have nm1 := nI_m1 (j := tkV by_ T (tkJ by_ T i)) (by omega)
        refine ⟨Or.inr ⟨nm1, mV, (tb 4 (by decide)).mpr (Or.inr rfl)⟩, (by
          show (S.1 3 = -1 ∧ fG M1 1 13 = 3 ∧ ¬ tB (M1.1 2) 5) ∨ (S.1 3 ≠ -1 ∧ fG M1 1 13 = S.1 3 ∧ tB (M1.1 2) 5)
          rw [mM 1 13 (by omega), tbn 5 (by decide) (by decide)]
          exact v5), (by
          show (S.1 4 = -1 ∧ ¬ tB (M1.1 2) 6) ∨ (S.1 4 ≠ -1 ∧ tB (M1.1 2) 6)
          rw [tbn 6 (by decide) (by decide)]
          exact v6)⟩
      · exact rL.m (w := 4) (by omega) e2 (l2.2 13 (by omega)) (l2.2 14 (by omega)) (mM 1 15 (by omega)) (fun k k1 k2 i' => mM k i' (by omega))
theorem mid_tries (hls : LnS x D σ M by_ T i p n t r kn) (hu : (D.1 (kS (!σ))).1 3 = -1) (h0 : tkK by_ T i ≠ 0) (F : Nat) : ∃ rr D1 M1, ia_cal xs (d + 9) im_Reader_readTries [.ref (x + 53)] (tot H x D) = some (some (.int rr), tot H x D1) ∧ ia_qr xs (ia_cal xs (d' + 5)) im_Mod_line (F + 1) 39 [.ref a, .int (nI 5), .float 0, .float 0, .float 0] [] (pM h a M) = ia_qr xs (ia_cal xs (d' + 5)) im_Mod_line F 200 [.ref a, .float 0, .float 0, .float 0, .float 0] [] (pM h a M1) ∧ MI x D σ M by_ T i rr D1 M1 := by
  have hls' := hls
  obtain ⟨hc, hb, ha, hs, hh, h7⟩ := hls
  obtain ⟨⟨hS, hw, hF, hf0, hf1, hf2, hpc, hvp⟩, ⟨m8, m9, m10, m11⟩, rP, rN, rT, rC, rV, rL⟩ := hh
  have hiT := hs.2.2.1
  obtain ⟨rr, D1, c1, c3⟩ := c_tries xs d (H := H) (B := D.1 3) (E := D.1 7) (L := D.1 (kL (!σ))) hc rfl hiT hu
  rw [hls'.kk] at c1
  obtain ⟨u1, M1, l1, l2, l3, l5, l6⟩ := l_num xs d' (h := h) (a := a) hb hs (w := 5) (lo := 1) (hi := 9) (by omega) (F := F)
  refine ⟨rr, D1, M1, c1, l1, ?_⟩
  have ln1 : (M.2.1 1).length = 16 := hb.2.2 1 (by decide)
  have rs : rsc M M1 := ((rsc_td (w := 5)).t (rsc_up (k := 1) (j := 13) (by decide) (by decide) (by decide) (by show 13 < (M.2.1 1).length; omega))).t (rsc_tsc l2)
  have bm : bM (D.1 0) M1 by_ T := l2.b (bM_up (td_b hb) (by decide))
  have on1 := (tk_on hc.tk i hiT)
  cases e : nuS by_ T 1 9 (tkJ by_ T i) with
  | inl f =>
    rw [e] at c3 l5
    obtain ⟨c4, j, c5⟩ := c3
    rw [c4, c5]
    exact MI_bad hls' l5.2.2.1 l5.2.2.2 rs bm l5
  | inr j =>
    rw [e] at c3 l5
    obtain ⟨c4, c5, c6⟩ := c3
    obtain ⟨a1, a2, a3, a4⟩ := nuS_j e
    have on2 := tk_on hc.tk (tkJ by_ T i) on1.2.2.1
    have hij := on1.2.2.2.1 h0
    have x1 := l6 j e
    rw [x1] at l2
    rw [c4, c6]
    refine MI_ok hls' (p' := p) (n' := n) (t' := t) (r' := r) (kn' := kn) (by rw [a1]; omega) ?_ bm rfl l5 ?_ rs (l2.2 3 (by omega)) ⟨rfl, rfl⟩
    · refine ⟨fun k h3 h6 h7' hS' hL' => ?_, fun k _ => rfl, rfl, rfl, rfl, ?_, h7, rfl⟩
      · rw [k4_n h6 h3 h7' hL', uG_n hS']
      · rw [k4_S, uG_s]; rfl
    · rw [k4_S, k4_L, uG_s]
      generalize hS0 : D.1 (kS (!σ)) = S at *
      have mM : ∀ k i', (k ≠ 1 ∨ i' ≠ 13) → fG M1 k i' = fG M k i' := fun k i' h3 => by
        rw [l2.f, upR_n h3]; rfl
      have mV : fG M1 1 13 = nI (tkV by_ T (tkJ by_ T i)) := by
        rw [l2.f, upR_v (by show 13 < (M.2.1 1).length; omega)]
      have e2 : M1.1 2 = M.1 2 ||| ((1 : Int32) <<< (nI 5 &&& 31)) := l2.2 2 (by omega)
      have tb : ∀ k, k < 19 → (tB (M1.1 2) k ↔ tB (M.1 2) k ∨ k = 5) := fun k hk => by rw [e2]; exact tB_or _ k 5 hk (by decide)
      have tbn : ∀ k, k < 19 → k ≠ 5 → (tB (M1.1 2) k ↔ tB (M.1 2) k) := fun k hk hn => by rw [tb k hk]; exact ⟨fun z => z.elim id (fun z => absurd z hn), Or.inl⟩
      refine ⟨⟨hS, hw, hF, hf0, hf1, hf2, hpc, hvp⟩, ⟨by rw [mM 1 8 (by omega)]; exact m8, by rw [mM 1 9 (by omega)]; exact m9, by rw [mM 1 10 (by omega)]; exact m10, by rw [mM 1 11 (by omega)]; exact m11⟩, ?_, ?_, ?_, ?_, ?_, ?_⟩
      · exact rP.m (fun i' _ => mM 2 _ (by omega)) (fun i' _ => mM 3 _ (by omega)) (fun i' _ => mM 4 _ (by omega))
      · exact rN.m (fun k hk i' _ => mM k _ (by omega))
      · exact rT.m (fun k k1 k2 i' _ => mM k _ (by omega))
      · exact rC.m (fun k k1 k2 i' _ => mM k _ (by omega))
      · obtain ⟨v4, v5, v6⟩ := rV
        have nm1 := nI_m1 (j := tkV by_ T (tkJ by_ T i)) (by omega)
        refine ⟨(by
          show (S.1 2 = -1 ∧ fG M1 1 12 = 3 ∧ ¬ tB (M1.1 2) 4) ∨ (S.1 2 ≠ -1 ∧ fG M1 1 12 = S.1 2 ∧ tB (M1.1 2) 4)
          rw [mM 1 12 (by omega), tbn 4 (by decide) (by decide)]
          exact v4), Or.inr ⟨nm1, mV, (tb 5 (by decide)).mpr (Or.inr rfl)⟩, (by
          show (S.1 4 = -1 ∧ ¬ tB (M1.1 2) 6) ∨ (S.1 4 ≠ -1 ∧ tB (M1.1 2) 6)
          rw [tbn 6 (by decide) (by decide)]
          exact v6)⟩
      · exact rL.m (w := 5) (by omega) e2 (l2.2 13 (by omega)) (l2.2 14 (by omega)) (mM 1 15 (by omega)) (fun k k1 k2 i' => mM k i' (by omega))
theorem mid_seed (hls : LnS x D σ M by_ T i p n t r kn) (hu : (D.1 (kS (!σ))).1 4 = -1) (h0 : tkK by_ T i ≠ 0) (F : Nat) : ∃ rr D1 M1, ia_cal xs (d + 9) im_Reader_readSeed [.ref (x + 53)] (tot H x D) = some (some (.int rr), tot H x D1) ∧ ia_qr xs (ia_cal xs (d' + 5)) im_Mod_line (F + 1) 39 [.ref a, .int (nI 6), .float 0, .float 0, .float 0] [] (pM h a M) = ia_qr xs (ia_cal xs (d' + 5)) im_Mod_line F 200 [.ref a, .float 0, .float 0, .float 0, .float 0] [] (pM h a M1) ∧ MI x D σ M by_ T i rr D1 M1 := by
  have hls' := hls
  obtain ⟨hc, hb, ha, hs, hh, h7⟩ := hls
  obtain ⟨⟨hS, hw, hF, hf0, hf1, hf2, hpc, hvp⟩, ⟨m8, m9, m10, m11⟩, rP, rN, rT, rC, rV, rL⟩ := hh
  have hiT := hs.2.2.1
  obtain ⟨rr, D1, c1, c3⟩ := c_seed xs d (H := H) (B := D.1 3) (E := D.1 7) (L := D.1 (kL (!σ))) hc rfl hiT hu
  rw [hls'.kk] at c1
  obtain ⟨u1, M1, l1, l2, l3, l5, l6⟩ := l_num xs d' (h := h) (a := a) hb hs (w := 6) (lo := 0) (hi := 99999) (by omega) (F := F)
  refine ⟨rr, D1, M1, c1, l1, ?_⟩
  have ln1 : (M.2.1 1).length = 16 := hb.2.2 1 (by decide)
  have rs : rsc M M1 := ((rsc_td (w := 6)).t (rsc_up (k := 1) (j := 14) (by decide) (by decide) (by decide) (by show 14 < (M.2.1 1).length; omega))).t (rsc_tsc l2)
  have bm : bM (D.1 0) M1 by_ T := l2.b (bM_up (td_b hb) (by decide))
  have on1 := (tk_on hc.tk i hiT)
  cases e : nuS by_ T 0 99999 (tkJ by_ T i) with
  | inl f =>
    rw [e] at c3 l5
    obtain ⟨c4, j, c5⟩ := c3
    rw [c4, c5]
    exact MI_bad hls' l5.2.2.1 l5.2.2.2 rs bm l5
  | inr j =>
    rw [e] at c3 l5
    obtain ⟨c4, c5, c6⟩ := c3
    obtain ⟨a1, a2, a3, a4⟩ := nuS_j e
    have on2 := tk_on hc.tk (tkJ by_ T i) on1.2.2.1
    have hij := on1.2.2.2.1 h0
    have x1 := l6 j e
    rw [x1] at l2
    rw [c4, c6]
    refine MI_ok hls' (p' := p) (n' := n) (t' := t) (r' := r) (kn' := kn) (by rw [a1]; omega) ?_ bm rfl l5 ?_ rs (l2.2 3 (by omega)) ⟨rfl, rfl⟩
    · refine ⟨fun k h3 h6 h7' hS' hL' => ?_, fun k _ => rfl, rfl, rfl, rfl, ?_, h7, rfl⟩
      · rw [k4_n h6 h3 h7' hL', uG_n hS']
      · rw [k4_S, uG_s]; rfl
    · rw [k4_S, k4_L, uG_s]
      generalize hS0 : D.1 (kS (!σ)) = S at *
      have mM : ∀ k i', (k ≠ 1 ∨ i' ≠ 14) → fG M1 k i' = fG M k i' := fun k i' h3 => by
        rw [l2.f, upR_n h3]; rfl
      have mV : fG M1 1 14 = nI (tkV by_ T (tkJ by_ T i)) := by
        rw [l2.f, upR_v (by show 14 < (M.2.1 1).length; omega)]
      have e2 : M1.1 2 = M.1 2 ||| ((1 : Int32) <<< (nI 6 &&& 31)) := l2.2 2 (by omega)
      have tb : ∀ k, k < 19 → (tB (M1.1 2) k ↔ tB (M.1 2) k ∨ k = 6) := fun k hk => by rw [e2]; exact tB_or _ k 6 hk (by decide)
      have tbn : ∀ k, k < 19 → k ≠ 6 → (tB (M1.1 2) k ↔ tB (M.1 2) k) := fun k hk hn => by rw [tb k hk]; exact ⟨fun z => z.elim id (fun z => absurd z hn), Or.inl⟩
      refine ⟨⟨hS, hw, hF, hf0, hf1, hf2, hpc, hvp⟩, ⟨by rw [mM 1 8 (by omega)]; exact m8, by rw [mM 1 9 (by omega)]; exact m9, by rw [mM 1 10 (by omega)]; exact m10, by rw [mM 1 11 (by omega)]; exact m11⟩, ?_, ?_, ?_, ?_, ?_, ?_⟩
      · exact rP.m (fun i' _ => mM 2 _ (by omega)) (fun i' _ => mM 3 _ (by omega)) (fun i' _ => mM 4 _ (by omega))
      · exact rN.m (fun k hk i' _ => mM k _ (by omega))
      · exact rT.m (fun k k1 k2 i' _ => mM k _ (by omega))
      · exact rC.m (fun k k1 k2 i' _ => mM k _ (by omega))
      · obtain ⟨v4, v5, v6⟩ := rV
        have nm1 := nI_m1 (j := tkV by_ T (tkJ by_ T i)) (by omega)
        refine ⟨(by
          show (S.1 2 = -1 ∧ fG M1 1 12 = 3 ∧ ¬ tB (M1.1 2) 4) ∨ (S.1 2 ≠ -1 ∧ fG M1 1 12 = S.1 2 ∧ tB (M1.1 2) 4)
          rw [mM 1 12 (by omega), tbn 4 (by decide) (by decide)]
          exact v4), (by
          show (S.1 3 = -1 ∧ fG M1 1 13 = 3 ∧ ¬ tB (M1.1 2) 5) ∨ (S.1 3 ≠ -1 ∧ fG M1 1 13 = S.1 3 ∧ tB (M1.1 2) 5)
          rw [mM 1 13 (by omega), tbn 5 (by decide) (by decide)]
          exact v5), Or.inr ⟨nm1, (tb 6 (by decide)).mpr (Or.inr rfl)⟩⟩
      · exact rL.m (w := 6) (by omega) e2 (l2.2 13 (by omega)) (l2.2 14 (by omega)) (mM 1 15 (by omega)) (fun k k1 k2 i' => mM k i' (by omega))
end GX4
