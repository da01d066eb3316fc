/-! text: laws read by both. -/
theorem pB_inj {k p k' p' : Nat} (h : pB k p = pB k' p') : k = k' ∧ p = p' := by
  unfold pB at h
  have := Sum.inl.inj h
  exact ⟨congrArg Prod.fst this, congrArg Prod.snd this⟩
theorem pB_pO {k p i kn : Nat} {out : List (Nat × Nat)} (h : pB k p = pO i kn out) : False := by
  unfold pB pO at h
  cases h
theorem pO_inj {i kn i' kn' : Nat} {out out' : List (Nat × Nat)} (h : pO i kn out = pO i' kn' out') : i = i' ∧ kn = kn' ∧ out = out' := by
  unfold pO at h
  have := Sum.inr.inj h
  exact ⟨congrArg Prod.fst this, congrArg (fun z => z.2.1) this, congrArg (fun z => z.2.2) this⟩
section GX9
variable (xs : List Int32) (d d' : Nat) {H h : ia_H} {x a : Nat} {D : aC} {σ : Bool} {M : aG} {by_ : Nat → Nat} {T i p n t r kn : Nat}
/-- the reference's line of a law -/
theorem l_law (hb : bM (D.1 0) M by_ T) (hs : stM M by_ T (.inr i)) (h13 : M.1 13 = nI 0) (h14 : M.1 14 = nI kn) (h15 : fG M 1 15 = nI kn) (hk : kn ≤ 64) (F : Nat) : ∃ Ma M', ia_qr xs (ia_cal xs (d + 125)) im_Mod_line (F + 1) 39 [.ref a, .int (nI 7), .float 0, .float 0, .float 0] [] (pM h a M) = ia_qr xs (ia_cal xs (d + 125)) im_Mod_line F 200 [.ref a, .float 0, .float 0, .float 0, .float 0] [] (pM h a M') ∧ tsc (tdM M 7) Ma ∧
    ((¬ (12 ≤ tkK by_ T (tkJ by_ T i) ∧ tkK by_ T (tkJ by_ T i) ≤ 14) ∧ tsc Ma M' ∧ stM M' by_ T (.inl (1, tkP by_ T (tkJ by_ T i)))) ∨
    (∃ q, q < 3 ∧ tkK by_ T (tkJ by_ T i) = 12 + q ∧ tbL Ma q ∧ tsc Ma M' ∧ stM M' by_ T (.inl (3, tkP by_ T (tkJ by_ T i)))) ∨
    (∃ q M5 M6 v, q < 3 ∧ tkK by_ T (tkJ by_ T i) = 12 + q ∧ ¬ tbL Ma q ∧ tsc (upR (tdM Ma (16 + q)) 14 (3 + q) (nI kn)) M5 ∧ bM (D.1 0) M5 by_ T ∧ stM M5 by_ T (.inr (tkJ by_ T (tkJ by_ T i))) ∧ lvR M5 by_ T kn 0 0 (tkJ by_ T (tkJ by_ T i)) kn [] M6 ∧ M' = upR M6 15 (3 + q) v ∧ v = fG M6 1 15)) := by
  obtain ⟨M1, t1, t2, t3⟩ := s_token xs (d + 121) (h := h) (a := a) (td_b (w := 7) hb) (td_s hs)
  have b1 := t2.b (td_b hb)
  obtain ⟨M', g1, g2⟩ := l_law0 xs d (h := h) (a := a) b1 t3 (w0 := kn) (kn := kn) ((t2.2 13 (by omega)).trans h13) ((t2.2 14 (by omega)).trans h14) (by rw [t2.f]; exact h15) (Nat.le_refl _) hk
  refine ⟨M1, M', ?_, t2, g2⟩
  have q9 : M.1 9 = 0 := hs.1
  have t1' : ia_cal xs (d + 125) im_Mod_token [.ref a] (pM h a (gI M 2 (M.1 2 ||| ((1 : Int32) <<< (nI 7 &&& 31))))) = some (none, pM h a M1) := t1
  rw [iq_Mod_line_39]
  simp only [↓pM_Ib, q9, ↓pM_pfb]
  rw [if_pos trivial]
  simp only [↓pM_clsb, ↓cV_of t1', ↓if_n (show ¬ nI 7 = (0 : Int32) by decide), ↓if_n (show ¬ nI 7 = (1 : Int32) by decide), ↓if_n (show ¬ nI 7 = (2 : Int32) by decide), ↓if_n (show ¬ nI 7 = (3 : Int32) by decide), ↓if_n (show ¬ nI 7 = (4 : Int32) by decide), ↓if_n (show ¬ nI 7 = (5 : Int32) by decide), ↓if_n (show ¬ nI 7 = (6 : Int32) by decide), ↓cV_of g1]
theorem FD_lBad (hls : LnS x D σ M by_ T i p n t r kn) {k pl : Nat} {D1 : aC} (hb : lBad D σ k pl D1) : FD D σ k pl D1 := by
  obtain ⟨A, B, E, L, e, h1, h2, h3, h4, h5, h6, h7, h8⟩ := hb
  rw [e]
  refine ⟨frD_k4 h1 h7 h2 h8 h5, ?_, h3, h4⟩
  have hj := hls.2.2.2.2.1.jk
  unfold jkD
  rw [k4_S, k4_L]
  exact ⟨hj.1, h6, hj.2.2⟩
theorem mid_law (hls : LnS x D σ M by_ T i p n t r kn) (h0 : tkK by_ T i ≠ 0) (F : Nat) : ∃ rr D1 M1, ia_cal xs (d + 9) im_Reader_readLaw [.ref (x + 53)] (tot H x D) = some (some (.int rr), tot H x D1) ∧ ia_qr xs (ia_cal xs (d' + 125)) im_Mod_line (F + 1) 39 [.ref a, .int (nI 7), .float 0, .float 0, .float 0] [] (pM h a M) = ia_qr xs (ia_cal xs (d' + 125)) im_Mod_line F 200 [.ref a, .float 0, .float 0, .float 0, .float 0] [] (pM h a M1) ∧ MI x D σ M by_ T i rr D1 M1 := by
  have hls' := hls
  obtain ⟨hc, hb, ha, hs, hh, h7⟩ := hls
  obtain ⟨⟨hS, hw, hF, hf0, hf1, hf2, hpc, hvp⟩, ⟨m8, m9, m10, m11⟩, rP, rN, rT, rC, rV, rL⟩ := hh
  have hiT := hs.2.2.1
  have rL' := rL
  obtain ⟨L0, L1, M14, M15, hk64, M13, hlaws⟩ := rL
  have on1 := tk_on hc.tk i hiT
  have on2 := tk_on hc.tk _ on1.2.2.1
  have hij := on1.2.2.2.1 h0
  have k38 := tk_lt hc.tk (tkJ by_ T i)
  obtain ⟨rr, D1, c1, c2⟩ := c_law xs d (H := H) hc hiT hw L0 L1 hk64 h7
  rw [hls'.kk] at c1
  obtain ⟨Ma, M1, l1, l2, l3⟩ := l_law xs d' (h := h) (a := a) (D := D) hb hs M13 M14 M15 hk64 F
  refine ⟨rr, D1, M1, c1, l1, ?_⟩
  have ba : bM (D.1 0) Ma by_ T := l2.b (td_b hb)
  have ra : rsc M Ma := (rsc_td (w := 7)).t (rsc_tsc l2)
  have told : ∀ q, q < 3 → (tbL Ma q ↔ fG (D.1 (kL (!σ))) 2 q < fG (D.1 (kL (!σ))) 3 q) := fun q hq => by
    obtain ⟨-, -, u, w, g3, g4, g5, g6, g7, -⟩ := hlaws q hq
    have e2 : Ma.1 2 = M.1 2 ||| ((1 : Int32) <<< (nI 7 &&& 31)) := l2.2 2 (by omega)
    have : tbL Ma q ↔ tB (M.1 2) (16 + q) := by
      show tB (Ma.1 2) (16 + q) ↔ _
      rw [e2, tB_or _ (16 + q) 7 (by omega) (by decide)]
      exact ⟨fun z => z.elim id (fun z => by omega), Or.inl⟩
    rw [this, g7, g3, g4, nI_ltI (by omega) (by omega)]
  rcases l3 with ⟨n1, n2, n3⟩ | ⟨q, n1, n2, n3, n4, n5⟩ | ⟨q, M5, M6, v, n1, n2, n3, n4, n5, n6, n7, n8, n9⟩
  · rcases c2 with ⟨a1, a2, a3⟩ | ⟨q', a1, a2, -⟩ | ⟨q', a1, a2, -⟩
    · rw [a2, a3]
      exact MI_bad hls' (by decide) (by decide) (ra.t (rsc_tsc n2)) (n2.b ba) n3
    · omega
    · omega
  · rcases c2 with ⟨a1, -⟩ | ⟨q', a1, a2, a3, a4, a5⟩ | ⟨q', a1, a2, a3, -⟩
    · omega
    · rw [a4, a5]
      exact MI_bad hls' (by decide) (by decide) (ra.t (rsc_tsc n4)) (n4.b ba) n5
    · have : q' = q := by omega
      rw [this] at a3
      exact absurd ((told q n1).mp n3) a3
  · rcases c2 with ⟨a1, -⟩ | ⟨q', a1, a2, a3, -⟩ | ⟨q', a1, a2, a3, a4⟩
    · omega
    · have : q' = q := by omega
      rw [this] at a3
      exact absurd ((told q n1).mpr a3) n3
    · have eq' : q' = q := by omega
      subst eq'
      have ln14 : (Ma.2.1 14).length = 6 := ba.2.2 14 (by decide)
      have r5 : rsc M M5 := ((ra.t (rsc_td (w := 16 + q'))).t (rsc_up (k := 14) (j := 3 + q') (by decide) (by decide) (by show 3 ≤ 3 + q'; omega) (by show 3 + q' < (Ma.2.1 14).length; omega))).t (rsc_tsc n4)
      have hoks : okS (tkK by_ T) 0 (tkJ by_ T (tkJ by_ T i)) [] := ⟨Nat.le_refl 0, Or.inl (by decide)⟩
      have ln15 : ∀ W o nn ll j', ((rSt M5 by_ T kn j' W o nn ll).2.1 15).length = 6 := fun W o nn ll j' => n5.2.2 15 (by decide)
      rcases n7 with ⟨k, pl, hkp, hsb, j', W3, o3, n3', l3', e3⟩ | ⟨i', nn, ll, W3, e3, hi21, hi2, hv3, hl3, hk3, hk4, hs3, hn3, hp3⟩
      · have cr := hsb [] hoks
        have rM : rsc M M1 := by
          rw [n8, e3]
          exact ((r5.t (rsc_rSt n5.2.2)).t rsc_fl).t (rsc_up (k := 15) (by decide) (by decide) (by show 3 ≤ 3 + q'; omega) (by show 3 + q' < ((rSt M5 by_ T kn j' W3 o3 n3' l3').2.1 15).length; rw [ln15]; omega))
        have sM : stM M1 by_ T (.inl (k, pl)) := by
          rw [n8, e3]
          exact st_up (st_fl (by omega) (by omega))
        rcases a4 with ⟨z1, k', p', z2, z3, z4⟩ | ⟨z1, i2, R', nq, kn', out', z2, z3, z4, z5, z6, z7, z8⟩
        · obtain ⟨y1, y2⟩ := pB_inj (cr.symm.trans z3)
          subst y1 y2
          rw [z1]
          exact Or.inl ⟨rfl, k, pl, by omega, by omega, FD_lBad hls' z4, rM, rM.b hb, Or.inl sM⟩
        · exact absurd (cr.symm.trans z8) (fun z => pB_pO z)
      · have cr := hs3 [] hoks
        have rM : rsc M M1 := by
          rw [n8, e3]
          exact (r5.t (rsc_rSt n5.2.2)).t (rsc_up (k := 15) (by decide) (by decide) (by show 3 ≤ 3 + q'; omega) (by show 3 + q' < ((rSt M5 by_ T kn i' W3 0 nn ll).2.1 15).length; rw [ln15]; omega))
        have sM : stM M1 by_ T (.inr i') := by
          rw [n8, e3]
          refine st_up ?_
          refine ⟨r_9 (rB_of n5 n6.1), ⟨rfl, rfl, rfl, hv3⟩, hi2, n6.2.2.2⟩
        have hJ := hc.j
        unfold nxL at hn3
        have r6 := rk_le (tkK by_ T i')
        by_cases c4 : rkK (tkK by_ T i') = 4
        · rw [if_pos ⟨c4, by decide⟩] at cr
          rcases a4 with ⟨z1, k', p', z2, z3, z4⟩ | ⟨z1, i2, R', nq, kn', out', z2, z3, z4, z5, z6, z7, z8⟩
          · obtain ⟨y1, y2⟩ := pB_inj (cr.symm.trans z3)
            subst y1 y2
            rw [z1]
            refine Or.inl ⟨rfl, 1, tkP by_ T i', by decide, by decide, FD_lBad hls' z4, rM, rM.b hb, Or.inr ⟨i', sM, fun z => ?_, rfl, rfl⟩⟩
            rw [z] at c4
            exact absurd c4 (by decide)
          · exact absurd (cr.symm.trans z8) (fun z => pB_pO z)
        · rw [if_neg (fun z => c4 z.1), cRu_f hJ hi2, if_neg (fun z => absurd z.2 (by decide)), if_pos (by omega), if_neg (by decide)] at cr
          rcases a4 with ⟨z1, k', p', z2, z3, z4⟩ | ⟨z1, i2, R', nq, kn', out', z2, z3, z4, z5, z6, z7, z8⟩
          · exact absurd (z3.symm.trans cr) (fun z => pB_pO z)
          · obtain ⟨y1, y2, y3⟩ := pO_inj (cr.symm.trans z8)
            have y3' : ll = out' := y3
            subst y1 y2 y3'
            rw [z1, z2]
            have hl3' : ll.length + kn = nn + 0 := hl3
            have f15 : v = nI nn := by
              rw [n9, e3]
              show ((M5.2.1 1).set 15 (nI (kn + ll.length))).getD 15 0 = _
              have : (M5.2.1 1).length = 16 := n5.2.2 1 (by decide)
              rw [ia_set_getD (by omega), if_pos rfl, show kn + ll.length = nn by omega]
            rw [e3, f15] at n8
            have er : ∀ k i, (k ≠ 14 ∨ i ≠ 3 + q') → fG M5 k i = fG M k i := fun k i hki => by
              rw [n4.f, upR_n hki]
              show fG Ma k i = _
              rw [l2.f]; rfl
            have e14 : fG M5 14 (3 + q') = nI kn := by rw [n4.f, upR_v (by show 3 + q' < (Ma.2.1 14).length; omega)]
            have e2 : M5.1 2 = (M.1 2 ||| ((1 : Int32) <<< (nI 7 &&& 31))) ||| ((1 : Int32) <<< (nI (16 + q') &&& 31)) := by
              rw [n4.2 2 (by omega)]
              show Ma.1 2 ||| _ = _
              rw [l2.2 2 (by omega)]
              rfl
            have rL2 := hL_law (M' := M1) (i := i') (W := W3) (by_ := by_) (T := T) hw rL' n1 (show nn = kn + ll.length by omega) hk4 hp3 n5.2.2 e2 er e14 n8
            have mM : ∀ k j', 1 ≤ k → k < 14 → (k ≠ 1 ∨ j' ≠ 15) → fG M1 k j' = fG M k j' := fun k j' hk1 hk2 hkj => by
              rw [n8, upR_n (by omega)]
              show ((if k = 17 then _ else if k = 16 then _ else if k = 1 then (M5.2.1 1).set 15 _ else M5.2.1 k) : List Int32).getD j' 0 = _
              rw [if_neg (by omega), if_neg (by omega)]
              by_cases ck : k = 1
              · rw [if_pos ck]
                have : (M5.2.1 1).length = 16 := n5.2.2 1 (by decide)
                rw [ia_set_getD (by omega), if_neg (by omega), ck]
                exact er 1 j' (by omega)
              · rw [if_neg ck]
                exact er k j' (by omega)
            have m3 : M1.1 3 = M.1 3 := by
              rw [n8]
              show M5.1 3 = _
              rw [n4.2 3 (by omega)]
              show Ma.1 3 = _
              rw [l2.2 3 (by omega)]
              rfl
            have m2 : M1.1 2 = M5.1 2 := by rw [n8]; rfl
            refine MI_ok hls' (p' := p) (n' := n) (t' := t) (r' := r) (kn' := nn) (by omega) ?_ (rM.b hb) rfl sM ?_ rM m3 ⟨rfl, rfl⟩
            · exact frD_k4 rfl rfl rfl rfl z3
            · rw [k4_S, k4_L, k4_2]
              refine ⟨⟨hS, ?_, hF, hf0, hf1, hf2, hpc, hvp⟩, ⟨by rw [mM 1 8 (by decide) (by decide) (by decide)]; exact m8, by rw [mM 1 9 (by decide) (by decide) (by decide)]; exact m9, by rw [mM 1 10 (by decide) (by decide) (by decide)]; exact m10, by rw [mM 1 11 (by decide) (by decide) (by decide)]; exact m11⟩, ?_, ?_, ?_, ?_, ?_, rL2⟩
              · obtain ⟨x0, x1, x2, x3, x4⟩ := lw_wf (w0 := kn) (kn := nn) (out := ll) hw
                exact ⟨x0, x1, by show (((lwS _ kn nn ll).2.1 2).set q' _).length = 3; rw [List.length_set]; exact x2, by show (((lwS _ kn nn ll).2.1 3).set q' _).length = 3; rw [List.length_set]; exact x3, x4⟩
              · exact rP.m (fun i' _ => mM 2 _ (by decide) (by decide) (by omega)) (fun i' _ => mM 3 _ (by decide) (by decide) (by omega)) (fun i' _ => mM 4 _ (by decide) (by decide) (by omega))
              · exact rN.m (fun k hk i' _ => mM k _ (by omega) (by omega) (by omega))
              · exact rT.m (fun k k1 k2 i' _ => mM k _ (by omega) (by omega) (by omega))
              · exact rC.m (fun k k1 k2 i' _ => mM k _ (by omega) (by omega) (by omega))
              · have b : ∀ k, 4 ≤ k → k ≤ 6 → (tB (M1.1 2) k ↔ tB (M.1 2) k) := fun k h1 h2 => by
                  rw [m2, e2, tB_or _ k (16 + q') (by omega) (by omega), tB_or _ k 7 (by omega) (by decide)]
                  exact ⟨fun z => z.elim (fun z => z.elim id (fun z => by omega)) (fun z => by omega), fun z => Or.inl (Or.inl z)⟩
                unfold hV
                rw [mM 1 12 (by decide) (by decide) (by decide), mM 1 13 (by decide) (by decide) (by decide), b 4 (by decide) (by decide), b 5 (by decide) (by decide), b 6 (by decide) (by decide)]
                exact rV
end GX9
