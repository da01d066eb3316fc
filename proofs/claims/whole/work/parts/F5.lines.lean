/-! text: lines of the reference: calls and laws, up to what ends them. -/
section FX5
variable (xs : List Int32) (d : Nat) {h : ia_H} {a : Nat} {M N : aG} {by_ : Nat → Nat} {T : Nat} {i : Nat} {n p : Nat}
theorem l_ring (hb : bM N M by_ T) (hs : stM M by_ T (.inr i)) (hp : fG M 1 8 = nI p) (hp6 : p ≤ 6) (hn : fG M 1 11 = nI n) (hn8 : n < 10) {F : Nat} : ∃ v0 v1 v2 v3 M', ia_qr xs (ia_cal xs (d + 7)) im_Mod_line (F + 1) 39 [.ref a, .int (nI 3), .float 0, .float 0, .float 0] [] (pM h a M) = ia_qr xs (ia_cal xs (d + 7)) im_Mod_line F 200 [.ref a, .float 0, .float 0, .float 0, .float 0] [] (pM h a M') ∧ tsc (upR (upR (upR (upR (upR (tdM M 3) 10 (10 + n) v0) 11 (10 + n) v1) 12 (10 + n) (nI v2)) 13 (10 + n) (nI v3)) 1 11 (nI (n + 1))) M' ∧ v2 ≤ 99 ∧ v3 ≤ 9 ∧ stM M' by_ T (nb (nuS by_ T 1 9) (nb (nuS by_ T 0 99) (nb (fun i => .inr (tkJ by_ T i)) (nb (seS by_ T v0 v1) (nb (maS (fun i => fG M 2 (6 + i)) p by_ T) (nb (fun i => .inr (tkJ by_ T i)) (maS (fun i => fG M 2 (6 + i)) p by_ T (tkJ by_ T i)))))))) ∧ ∀ j, maS (fun i => fG M 2 (6 + i)) p by_ T (tkJ by_ T i) = .inr j → v0 = fnN (fun i => fG M 2 (6 + i)) p (tkV by_ T (tkJ by_ T i)) ∧ ∀ j2, maS (fun i => fG M 2 (6 + i)) p by_ T (tkJ by_ T j) = .inr j2 → v1 = fnN (fun i => fG M 2 (6 + i)) p (tkV by_ T (tkJ by_ T j)) ∧ ∀ j3, seS by_ T v0 v1 j2 = .inr j3 → ∀ j4, nuS by_ T 0 99 (tkJ by_ T j3) = .inr j4 → v2 = tkV by_ T (tkJ by_ T j3) ∧ ∀ j5, nuS by_ T 1 9 j4 = .inr j5 → v3 = tkV by_ T j4 := by
  obtain ⟨M1, t1, t2, t3⟩ := s_token xs (d + 3) (h := h) (a := a) (td_b (w := 3) hb) (td_s hs)
  have b1 := t2.b (td_b hb)
  have c1 := s_count xs (d + 6) (h := h) (a := a) b1 (k := 3) (n := n) (by decide) (by rw [t2.f]; exact hn) (v := 3) rfl
  obtain ⟨v0, v1, v2, v3, M2, e1, e2, e3, e4, e5, e6⟩ := l_ring0 xs d (h := h) (a := a) b1 t3 (p := p) (n := n) (by rw [t2.f]; exact hp) hp6 (by rw [t2.f]; exact hn) hn8
  have en : (fun i => fG M1 2 (6 + i)) = fun i => fG M 2 (6 + i) := funext fun i => t2.f 2 (6 + i)
  rw [en] at e5 e6
  have q9 : M.1 9 = 0 := hs.1
  have e10 : (10 : Int32) + nI n = nI (10 + n) := nI_add 10 n
  refine ⟨v0, v1, v2, v3, M2, ?_, tsc.t (tsc_up (tsc_up (tsc_up (tsc_up (tsc_up t2))))) e2, e3, e4, e5, fun j hj => e6 _ j rfl hj⟩
  rw [iq_Mod_line_39]
  simp only [↓pM_Ib, q9, ↓pM_pfb]
  rw [if_pos trivial]
  have t1' : ia_cal xs (d + 7) im_Mod_token [.ref a] (pM h a (gI M 2 (M.1 2 ||| ((1 : Int32) <<< (nI 3 &&& 31))))) = some (none, pM h a M1) := t1
  simp only [↓pM_clsb, ↓cV_of t1', ↓if_n (show ¬ nI 3 = (0 : Int32) by decide), ↓if_n (show ¬ nI 3 = (1 : Int32) by decide), ↓if_n (show ¬ nI 3 = (2 : Int32) by decide), ↓if_p (show nI 3 = (3 : Int32) from rfl), ↓cI_of c1.1, e10, ↓cV_of e1]
theorem set_self {l : List Int32} {k : Nat} (h : k < l.length) : l.set k (l.getD k 0) = l := by
  refine List.ext_getElem (by rw [List.length_set]) fun j h1 h2 => ?_
  rw [List.getElem_set]
  split
  · rename_i c
    subst c
    rw [List.getD_eq_getElem?_getD, List.getElem?_eq_getElem h]
    rfl
  · rfl
theorem rSt_id {w0 op kn : Nat} (hb : bM N M by_ T) (hs : atM M by_ T i) (h13 : M.1 13 = nI op) (h14 : M.1 14 = nI kn) (h15 : fG M 1 15 = nI w0) : rSt M by_ T w0 i (M.1 8) op kn [] = M := by
  obtain ⟨h5, h6, h7, h8⟩ := hs
  have l1 : (M.2.1 1).length = 16 := hb.2.2 1 (by decide)
  refine Prod.ext (funext fun k => ?_) (Prod.ext (funext fun k => ?_) rfl)
  · show (if k = 14 then nI kn else if k = 13 then nI op else if k = 8 then M.1 8 else if k = 7 then nI (srK (tkK by_ T i)) else if k = 6 then nI (tkP by_ T i) else if k = 5 then nI (tkJ by_ T i) else M.1 k) = M.1 k
    by_cases c14 : k = 14
    · rw [if_pos c14, c14, h14]
    · rw [if_neg c14]
      by_cases c13 : k = 13
      · rw [if_pos c13, c13, h13]
      · rw [if_neg c13]
        by_cases c8 : k = 8
        · rw [if_pos c8, c8]
        · rw [if_neg c8]
          by_cases c7 : k = 7
          · rw [if_pos c7, c7, h7]
          · rw [if_neg c7]
            by_cases c6 : k = 6
            · rw [if_pos c6, c6, h6]
            · rw [if_neg c6]
              by_cases c5 : k = 5
              · rw [if_pos c5, c5, h5]
              · rw [if_neg c5]
  · show (if k = 17 then M.2.1 17 else if k = 16 then M.2.1 16 else if k = 1 then (M.2.1 1).set 15 (nI (w0 + 0)) else M.2.1 k) = M.2.1 k
    by_cases c17 : k = 17
    · rw [if_pos c17, c17]
    · rw [if_neg c17]
      by_cases c16 : k = 16
      · rw [if_pos c16, c16]
      · rw [if_neg c16]
        by_cases c1 : k = 1
        · rw [if_pos c1, c1, Nat.add_zero, ← h15]
          exact set_self (by omega)
        · rw [if_neg c1]
theorem rB_of (hb : bM N M by_ T) (h9 : M.1 9 = 0) : rB N M by_ T := ⟨hb.1, hb.2.1, h9, hb.2.2 1 (by decide), hb.2.2 16 (by decide), hb.2.2 17 (by decide)⟩
/-- the law's bit -/
def tbL (M : aG) (q : Nat) : Prop := (M.1 2 >>> (nI (16 + q) &&& 31)) &&& 1 = 1
theorem l_law0 (hb : bM N M by_ T) (hs : stM M by_ T (.inr i)) {w0 kn : Nat} (h13 : M.1 13 = nI 0) (h14 : M.1 14 = nI kn) (h15 : fG M 1 15 = nI w0) (hw : w0 ≤ kn) (hk : kn ≤ 64) : ∃ M', ia_cal xs (d + 125) im_Mod_lawLine [.ref a] (pM h a M) = some (none, pM h a M') ∧
    ((¬ (12 ≤ tkK by_ T i ∧ tkK by_ T i ≤ 14) ∧ tsc M M' ∧ stM M' by_ T (.inl (1, tkP by_ T i))) ∨
    (∃ q, q < 3 ∧ tkK by_ T i = 12 + q ∧ tbL M q ∧ tsc M M' ∧ stM M' by_ T (.inl (3, tkP by_ T i))) ∨
    (∃ q M5 M6 v, q < 3 ∧ tkK by_ T i = 12 + q ∧ ¬ tbL M q ∧ tsc (upR (tdM M (16 + q)) 14 (3 + q) (nI w0)) M5 ∧ bM N M5 by_ T ∧ stM M5 by_ T (.inr (tkJ by_ T i)) ∧ lvR M5 by_ T w0 0 0 (tkJ by_ T i) kn [] M6 ∧ M' = upR M6 15 (3 + q) v ∧ v = fG M6 1 15)) := by
  have hs' := hs
  obtain ⟨h9, ⟨h5, h6, h7, h8⟩, hiT, h10⟩ := hs
  have s0 := (sr_2 hb i).2.2
  have k38 := tk_lt hb.tk i
  have wg : ∀ k v, v = nI k → ia_cal xs (d + 124) im_Mod_wrong [.ref a, .int v] (pM h a M) = some (none, pM h a (flM M k (tkP by_ T i))) := fun k v hv => p_wrong xs (d + 123) h9 h6 hv
  have f35 : ∀ F k q v, 1 ≤ k → k ≤ 5 → ia_qr xs (ia_cal xs (d + 124)) im_Mod_lawLine (F + 1) 35 [.ref a, .int v] [] (pM h a (flM M k q)) = some (none, pM h a (flM M k q)) := fun F k q v hk hk5 => by
    rw [iq_Mod_lawLine_35]
    simp only [↓pM_Ib]
    rw [if_neg (stM.n9 (st_fl (M := M) (by_ := by_) (T := T) (p := q) hk hk5))]
  have f11 : ∀ F, ia_qr xs (ia_cal xs (d + 124)) im_Mod_lawLine (F + 3) 11 [.ref a, .float 0] [] (pM h a M) = some (none, pM h a (flM M 1 (tkP by_ T i))) := fun F => by
    rw [show F + 3 = F + 1 + 1 + 1 from rfl, iq_Mod_lawLine_11]
    simp only [↓pM_clsb, ↓cV_of (wg 1 1 rfl)]
    rw [iq_Mod_lawLine_14]
    simp only [↓pM_Ib]
    rw [if_neg (stM.n9 (st_fl (M := M) (by_ := by_) (T := T) (k := 1) (p := tkP by_ T i) (by decide) (by decide)))]
    exact f35 F 1 _ _ (by decide) (by decide)
  rw [iu_Mod_lawLine, show (1000000 : Nat) = 999996 + 3 + 1 from rfl, iq_Mod_lawLine_0]
  simp only [↓pM_Ib, h7]
  by_cases c0 : 4 ≤ tkK by_ T i ∧ tkK by_ T i < 25
  · have w := h8.2.2.1 c0.1 c0.2
    have kw := kw_w _ c0.2 c0.1
    rw [if_pos (s0.mpr c0), w]
    have rw8 : ∀ K, K < 25 → 4 ≤ K → ((8 ≤ rwK K ∧ rwK K ≤ 10) ↔ (12 ≤ K ∧ K ≤ 14)) ∧ (12 ≤ K → K ≤ 14 → rwK K = K - 4) := by decide +kernel
    have r8 := rw8 _ c0.2 c0.1
    rw [← w]
    by_cases c12 : 12 ≤ tkK by_ T i ∧ tkK by_ T i ≤ 14
    · have c8 := r8.1.mpr c12
      obtain ⟨q, hq, hq2⟩ : ∃ q, q < 3 ∧ tkK by_ T i = 12 + q := ⟨tkK by_ T i - 12, by omega, by omega⟩
      have rq : rwK (tkK by_ T i) = 8 + q := by rw [r8.2 c12.1 c12.2]; omega
      rw [if_neg (show ¬ M.1 8 < (8 : Int32) by rw [w]; exact nI_nlt (b := 8) (by omega) (by omega)), if_neg (show ¬ (10 : Int32) < M.1 8 by rw [w]; exact nI_nlt (a := 10) (by omega) (by decide)), show 999996 + 3 = 999996 + 1 + 1 + 1 from rfl, iq_Mod_lawLine_14]
      have eq8 : M.1 8 - 8 = nI q := by
        rw [w, rq]
        have : nI (8 + q) - nI 8 = nI (8 + q - 8) := pk_sub (by omega)
        rw [show 8 + q - 8 = q by omega] at this
        exact this
      have e16 : (16 : Int32) + nI q = nI (16 + q) := nI_add 16 q
      simp only [↓pM_Ib, h9, eq8, e16]
      rw [if_pos trivial]
      by_cases ct : tbL M q
      · refine ⟨flM M 3 (tkP by_ T i), ?_, Or.inr (Or.inl ⟨q, hq, hq2, ct, tsc_fl, st_fl (by decide) (by decide)⟩)⟩
        rw [if_pos (show (M.1 2 >>> (nI (16 + q) &&& 31)) &&& 1 = 1 from ct)]
        simp only [↓pM_clsb, ↓cV_of (wg 3 3 rfl)]
        exact f35 _ 3 _ _ (by decide) (by decide)
      · rw [if_neg (show ¬ (M.1 2 >>> (nI (16 + q) &&& 31)) &&& 1 = 1 from ct), iq_Mod_lawLine_35]
        obtain ⟨M1, t1, t2, t3⟩ := s_token xs (d + 120) (h := h) (a := a) (td_b (w := 16 + q) hb) (td_s hs')
        have b1 := t2.b (td_b hb)
        have c1 := s_count xs (d + 123) (h := h) (a := a) b1 (k := 7) (n := w0) (by decide) (by rw [t2.f]; exact h15) (v := 7) rfl
        have e3 : (3 : Int32) + nI q = nI (3 + q) := nI_add 3 q
        have w14 := up_wr b1 (k := 14) (j := 3 + q) (by decide) (by show 3 + q < 6; omega) (by decide) (nI w0)
        have b2 := bM_up (k := 14) (j := 3 + q) (v := nI w0) b1 (by decide)
        have ts : tsc (upR (tdM M (16 + q)) 14 (3 + q) (nI w0)) (upR M1 14 (3 + q) (nI w0)) := tsc_up t2
        have st2 : stM (upR M1 14 (3 + q) (nI w0)) by_ T (.inr (tkJ by_ T i)) := st_up t3
        have q13 : (upR M1 14 (3 + q) (nI w0)).1 13 = nI 0 := (ts.2 13 (by omega)).trans h13
        have q14 : (upR M1 14 (3 + q) (nI w0)).1 14 = nI kn := (ts.2 14 (by omega)).trans h14
        have q15 : fG (upR M1 14 (3 + q) (nI w0)) 1 15 = nI w0 := by rw [ts.f]; exact h15
        have u0 : gA M1 14 ((M1.2.1 14).set (3 + q) (nI w0)) = upR M1 14 (3 + q) (nI w0) := rfl
        generalize upR M1 14 (3 + q) (nI w0) = M5 at *
        have rid := rSt_id b2 st2.2.1 q13 q14 q15
        obtain ⟨M6, g1, g2⟩ := r_all xs (h := h) (a := a) (w0 := w0) (rB_of b2 st2.1) 8 0 rfl (tkJ by_ T i) (M5.1 8) kn [] (d + 124) st2.2.2.1 st2.2.1.2.2.2 hw hk (by omega)
        rw [rid] at g1
        have l15 : (M6.2.1 1).length = 16 ∧ (M6.2.1 15).length = 6 := by
          have hl1 : ((rSt M5 by_ T w0 0 0 0 0 []).2.1 1).length = 16 := by
            show ((M5.2.1 1).set 15 _).length = 16
            rw [List.length_set]; exact b2.2.2 1 (by decide)
          rcases g2 with ⟨k, pp, -, -, j, W3, o3, n3, l3, e3⟩ | ⟨i2, kn2, out2, W3, e3, -⟩
          · rw [e3]
            exact ⟨by show ((M5.2.1 1).set 15 _).length = 16; rw [List.length_set]; exact b2.2.2 1 (by decide), b2.2.2 15 (by decide)⟩
          · rw [e3]
            exact ⟨by show ((M5.2.1 1).set 15 _).length = 16; rw [List.length_set]; exact b2.2.2 1 (by decide), b2.2.2 15 (by decide)⟩
        have fr2 := p_fresher xs (d + 123) (h := h) (a := a) (M := M6) (k := 7) l15.1 (by decide) (v := 7) rfl
        have w15 : wr (M6.2.1 15) (nI (3 + q)) (fG M6 1 (8 + 7)) = some ((M6.2.1 15).set (3 + q) (fG M6 1 (8 + 7))) := wr_nI (by omega) (by rw [l15.2]; omega)
        refine ⟨upR M6 15 (3 + q) (fG M6 1 15), ?_, Or.inr (Or.inr ⟨q, M5, M6, fG M6 1 15, hq, hq2, ct, ts, b2, st2, g2, rfl, rfl⟩)⟩
        have t1' : ia_cal xs (d + 124) im_Mod_token [.ref a] (pM h a (gI M 2 (M.1 2 ||| ((1 : Int32) <<< (nI (16 + q) &&& 31))))) = some (none, pM h a M1) := t1
        simp only [↓pM_Ib, h9, e16, ↓pM_pfb, ↓pM_clsb, ↓cV_of t1', ↓pM_Rb, ↓cI_of c1.1, e3, ↓pM_stb, ↓bs w14, u0, ↓cV_of g1, ↓cI_of fr2, ↓bs w15]
        rw [if_pos trivial]
        rfl
    · refine ⟨flM M 1 (tkP by_ T i), ?_, Or.inl ⟨c12, tsc_fl, st_fl (by decide) (by decide)⟩⟩
      by_cases c8 : rwK (tkK by_ T i) < 8
      · rw [if_pos (show M.1 8 < (8 : Int32) by rw [w]; exact nI_lt (b := 8) c8 (by decide))]
        exact f11 _
      · rw [if_neg (show ¬ M.1 8 < (8 : Int32) by rw [w]; exact nI_nlt (b := 8) (by omega) (by omega)), if_pos (show (10 : Int32) < M.1 8 by rw [w]; exact nI_lt (a := 10) (by have := r8.1.mp; omega) (by omega))]
        exact f11 _
  · refine ⟨flM M 1 (tkP by_ T i), ?_, Or.inl ⟨by omega, tsc_fl, st_fl (by decide) (by decide)⟩⟩
    rw [if_neg (fun z => c0 (s0.mp z))]
    exact f11 _
end FX5
