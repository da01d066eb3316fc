/-! text: lines of the reference: people, tones, numbers. -/
section FX3
variable (xs : List Int32) (d : Nat) {h : ia_H} {a : Nat} {M N : aG} {by_ : Nat → Nat} {T : Nat} {i : Nat} {n p : Nat}
theorem l_man (hb : bM N M by_ T) (hs : stM M by_ T (.inr i)) (hn : fG M 1 8 = nI p) (hn6 : p < 6) {F : Nat} : ∃ v0 v1 v2 M', ia_qr xs (ia_cal xs (d + 5)) im_Mod_line (F + 1) 39 [.ref a, .int (nI 0), .float 0, .float 0, .float 0] [] (pM h a M) = ia_qr xs (ia_cal xs (d + 5)) im_Mod_line F 200 [.ref a, .float 0, .float 0, .float 0, .float 0] [] (pM h a M') ∧ tsc (upR (upR (upR (upR (tdM M 0) 2 (6 + p) v0) 3 (6 + p) (nI v1)) 4 (6 + p) (nI v2)) 1 8 (nI (p + 1))) M' ∧ v1 ≤ 99 ∧ v2 ≤ 999 ∧ stM M' by_ T (nb (nuS by_ T 0 999) (nb (nuS by_ T 0 99) (frS (fun i => fG M 2 (6 + i)) p by_ T (tkJ by_ T i)))) ∧ ∀ j, frS (fun i => fG M 2 (6 + i)) p by_ T (tkJ by_ T i) = .inr j → v0 = nI (tkV by_ T (tkJ by_ T i)) ∧ ∀ j', nuS by_ T 0 99 j = .inr j' → v1 = tkV by_ T j ∧ ∀ j'', nuS by_ T 0 999 j' = .inr j'' → v2 = tkV by_ T j' := by
  obtain ⟨M1, t1, t2, t3⟩ := s_token xs (d + 1) (h := h) (a := a) (td_b (w := 0) hb) (td_s hs)
  have b1 := t2.b (td_b hb)
  have c1 := s_count xs (d + 4) (h := h) (a := a) b1 (k := 0) (n := p) (by decide) (by rw [t2.f]; exact hn) (v := 0) rfl
  obtain ⟨v0, M2, f1, f2, f3, f5⟩ := s_fresh xs d (h := h) (a := a) b1 t3 (p := p) (by omega)
  have en : (fun i => fG M1 2 (6 + i)) = fun i => fG M 2 (6 + i) := funext fun i => t2.f 2 (6 + i)
  rw [en] at f3 f5
  have b2 := f2.b b1
  have e6 : (6 : Int32) + nI p = nI (6 + p) := nI_add 6 p
  have w0 := up_wr b2 (k := 2) (j := 6 + p) (by decide) (by show 6 + p < 12; omega) (by decide) v0
  obtain ⟨v1, M3, n1, n2, n3, n4, n5⟩ := s_numeral xs d (h := h) (a := a) (M := upR M2 2 (6 + p) v0) (bM_up b2 (by decide)) (st_up f3) (lo := 0) (hi := 99) (by decide) (by decide) (l := 0) (g := 99) rfl rfl
  have b3 := n2.b (bM_up b2 (by decide))
  have w1 := up_wr b3 (k := 3) (j := 6 + p) (by decide) (by show 6 + p < 12; omega) (by decide) (nI v1)
  obtain ⟨v2, M4, m1, m2, m3, m4, m5⟩ := s_numeral xs d (h := h) (a := a) (M := upR M3 3 (6 + p) (nI v1)) (bM_up b3 (by decide)) (st_up n3) (lo := 0) (hi := 999) (by decide) (by decide) (l := 0) (g := 999) rfl rfl
  have b4 := m2.b (bM_up b3 (by decide))
  have w2 := up_wr b4 (k := 4) (j := 6 + p) (by decide) (by show 6 + p < 12; omega) (by decide) (nI v2)
  have b5 := bM_up (k := 4) (j := 6 + p) (v := nI v2) b4 (by decide)
  have ts : tsc (upR (upR (upR (tdM M 0) 2 (6 + p) v0) 3 (6 + p) (nI v1)) 4 (6 + p) (nI v2)) (upR M4 4 (6 + p) (nI v2)) := tsc_up (tsc.t (tsc_up (tsc.t (tsc_up (t2.t f2)) n2)) m2)
  have c2 := s_count xs (d + 4) (h := h) (a := a) b5 (k := 0) (n := p) (by decide) (by rw [ts.f]; exact hn) (v := 0) rfl
  have q9 : M.1 9 = 0 := hs.1
  refine ⟨v0, v1, v2, upR (upR M4 4 (6 + p) (nI v2)) 1 8 (nI (p + 1)), ?_, tsc_up ts, n4, m4, st_up (st_up m3), fun j hj => ⟨f5 _ j rfl hj, fun j' hj' => ⟨n5 j j' hj hj', fun j'' hj'' => m5 j' j'' (by show nb (nuS by_ T 0 99) (frS (fun i => fG M 2 (6 + i)) p by_ T (tkJ by_ T i)) = _; rw [hj]; exact hj') hj''⟩⟩⟩
  rw [iq_Mod_line_39]
  simp only [↓pM_Ib, q9, ↓pM_pfb]
  rw [if_pos trivial]
  have t1' : ia_cal xs (d + 5) im_Mod_token [.ref a] (pM h a (gI M 2 (M.1 2 ||| ((1 : Int32) <<< (nI 0 &&& 31))))) = some (none, pM h a M1) := t1
  have u0 : (upR M2 2 (6 + p) v0) = gA M2 2 ((M2.2.1 2).set (6 + p) v0) := rfl
  have u1 : (upR M3 3 (6 + p) (nI v1)) = gA M3 3 ((M3.2.1 3).set (6 + p) (nI v1)) := rfl
  have u2 : (upR M4 4 (6 + p) (nI v2)) = gA M4 4 ((M4.2.1 4).set (6 + p) (nI v2)) := rfl
  rw [u0] at n1
  rw [u1] at m1
  rw [u2] at c2
  simp only [↓pM_clsb, ↓cV_of t1', ↓if_p (show nI 0 = (0 : Int32) from rfl), ↓cI_of c1.1, ↓pM_Rb, ↓cI_of f1, e6, ↓pM_stb, ↓bs w0, ↓cI_of n1, ↓bs w1, ↓cI_of m1, ↓bs w2, ↓cI_of c2.1, nI_1, ↓cV_of (c2.2 _)]
  rfl
theorem l_tone (hb : bM N M by_ T) (hs : stM M by_ T (.inr i)) (hp : fG M 1 8 = nI p) (hp6 : p ≤ 6) (hn : fG M 1 9 = nI n) (hn8 : n < 8) {F : Nat} : ∃ v0 v1 v2 M', ia_qr xs (ia_cal xs (d + 6)) im_Mod_line (F + 1) 39 [.ref a, .int (nI 1), .float 0, .float 0, .float 0] [] (pM h a M) = ia_qr xs (ia_cal xs (d + 6)) im_Mod_line F 200 [.ref a, .float 0, .float 0, .float 0, .float 0] [] (pM h a M') ∧ tsc (upR (upR (upR (upR (tdM M 1) 5 (8 + n) v0) 6 (8 + n) (nI v1)) 7 (8 + n) (nI v2)) 1 9 (nI (n + 1))) M' ∧ v1 ≤ 99 ∧ v2 ≤ 16 ∧ stM M' by_ T (nb (nuS by_ T 1 16) (nb (nuS by_ T 0 99) (nb (fun i => .inr (tkJ by_ T i)) (maS (fun i => fG M 2 (6 + i)) p by_ T (tkJ by_ T i))))) ∧ ∀ j, maS (fun i => fG M 2 (6 + i)) p by_ T (tkJ by_ T i) = .inr j → v0 = fnN (fun i => fG M 2 (6 + i)) p (tkV by_ T (tkJ by_ T i)) ∧ ∀ j', nuS by_ T 0 99 (tkJ by_ T j) = .inr j' → v1 = tkV by_ T (tkJ by_ T j) ∧ ∀ j'', nuS by_ T 1 16 j' = .inr j'' → v2 = tkV by_ T j' := by
  obtain ⟨M1, t1, t2, t3⟩ := s_token xs (d + 2) (h := h) (a := a) (td_b (w := 1) hb) (td_s hs)
  have b1 := t2.b (td_b hb)
  have c1 := s_count xs (d + 5) (h := h) (a := a) b1 (k := 1) (n := n) (by decide) (by rw [t2.f]; exact hn) (v := 1) rfl
  obtain ⟨v0, M2, f1, f2, f3, f5⟩ := s_manAhead xs d (h := h) (a := a) b1 t3 (p := p) hp6 (by rw [t2.f]; exact hp)
  have en : (fun i => fG M1 2 (6 + i)) = fun i => fG M 2 (6 + i) := funext fun i => t2.f 2 (6 + i)
  rw [en] at f3 f5
  have b2 := f2.b b1
  have e6 : (8 : Int32) + nI n = nI (8 + n) := nI_add 8 n
  have w0 := up_wr b2 (k := 5) (j := 8 + n) (by decide) (by show 8 + n < 16; omega) (by decide) v0
  obtain ⟨v1, M3, n1, n2, n3, n4, n5⟩ := s_numeral xs (d + 1) (h := h) (a := a) (M := upR M2 5 (8 + n) v0) (bM_up b2 (by decide)) (st_up f3) (lo := 0) (hi := 99) (by decide) (by decide) (l := 0) (g := 99) rfl rfl
  have b3 := n2.b (bM_up b2 (by decide))
  have w1 := up_wr b3 (k := 6) (j := 8 + n) (by decide) (by show 8 + n < 16; omega) (by decide) (nI v1)
  obtain ⟨v2, M4, m1, m2, m3, m4, m5⟩ := s_numeral xs (d + 1) (h := h) (a := a) (M := upR M3 6 (8 + n) (nI v1)) (bM_up b3 (by decide)) (st_up n3) (lo := 1) (hi := 16) (by decide) (by decide) (l := 1) (g := 16) rfl rfl
  have b4 := m2.b (bM_up b3 (by decide))
  have w2 := up_wr b4 (k := 7) (j := 8 + n) (by decide) (by show 8 + n < 16; omega) (by decide) (nI v2)
  have b5 := bM_up (k := 7) (j := 8 + n) (v := nI v2) b4 (by decide)
  have ts : tsc (upR (upR (upR (tdM M 1) 5 (8 + n) v0) 6 (8 + n) (nI v1)) 7 (8 + n) (nI v2)) (upR M4 7 (8 + n) (nI v2)) := tsc_up (tsc.t (tsc_up (tsc.t (tsc_up (t2.t f2)) n2)) m2)
  have c2 := s_count xs (d + 5) (h := h) (a := a) b5 (k := 1) (n := n) (by decide) (by rw [ts.f]; exact hn) (v := 1) rfl
  have q9 : M.1 9 = 0 := hs.1
  refine ⟨v0, v1, v2, upR (upR M4 7 (8 + n) (nI v2)) 1 9 (nI (n + 1)), ?_, tsc_up ts, n4, m4, st_up (st_up m3), fun j hj => ⟨f5 _ j rfl hj, fun j' hj' => ⟨n5 (tkJ by_ T j) j' (by show nb _ (maS _ p by_ T (tkJ by_ T i)) = _; rw [hj]; rfl) hj', fun j'' hj'' => m5 j' j'' (by show nb (nuS by_ T 0 99) (nb _ (maS (fun i => fG M 2 (6 + i)) p by_ T (tkJ by_ T i))) = _; rw [hj]; exact hj') hj''⟩⟩⟩
  rw [iq_Mod_line_39]
  simp only [↓pM_Ib, q9, ↓pM_pfb]
  rw [if_pos trivial]
  have t1' : ia_cal xs (d + 6) im_Mod_token [.ref a] (pM h a (gI M 2 (M.1 2 ||| ((1 : Int32) <<< (nI 1 &&& 31))))) = some (none, pM h a M1) := t1
  have u0 : (upR M2 5 (8 + n) v0) = gA M2 5 ((M2.2.1 5).set (8 + n) v0) := rfl
  have u1 : (upR M3 6 (8 + n) (nI v1)) = gA M3 6 ((M3.2.1 6).set (8 + n) (nI v1)) := rfl
  have u2 : (upR M4 7 (8 + n) (nI v2)) = gA M4 7 ((M4.2.1 7).set (8 + n) (nI v2)) := rfl
  rw [u0] at n1
  rw [u1] at m1
  rw [u2] at c2
  simp only [↓pM_clsb, ↓cV_of t1', ↓if_n (show ¬ nI 1 = (0 : Int32) by decide), ↓if_p (show nI 1 = (1 : Int32) from rfl), ↓cI_of c1.1, ↓pM_Rb, ↓cI_of f1, e6, ↓pM_stb, ↓bs w0, ↓cI_of n1, ↓bs w1, ↓cI_of m1, ↓bs w2, ↓cI_of c2.1, nI_1, ↓cV_of (c2.2 _)]
  rfl
/-- a line with one number: lines, tries, seed -/
theorem l_num (hb : bM N M by_ T) (hs : stM M by_ T (.inr i)) {w lo hi : Nat} (hw : (w = 4 ∧ lo = 1 ∧ hi = 6) ∨ (w = 5 ∧ lo = 1 ∧ hi = 9) ∨ (w = 6 ∧ lo = 0 ∧ hi = 99999)) {F : Nat} : ∃ v M', ia_qr xs (ia_cal xs (d + 5)) im_Mod_line (F + 1) 39 [.ref a, .int (nI w), .float 0, .float 0, .float 0] [] (pM h a M) = ia_qr xs (ia_cal xs (d + 5)) im_Mod_line F 200 [.ref a, .float 0, .float 0, .float 0, .float 0] [] (pM h a M') ∧ tsc (upR (tdM M w) 1 (8 + w) (nI v)) M' ∧ v ≤ hi ∧ stM M' by_ T (nuS by_ T lo hi (tkJ by_ T i)) ∧ ∀ j, nuS by_ T lo hi (tkJ by_ T i) = .inr j → v = tkV by_ T (tkJ by_ T i) := by
  obtain ⟨M1, t1, t2, t3⟩ := s_token xs (d + 1) (h := h) (a := a) (td_b (w := w) hb) (td_s hs)
  have b1 := t2.b (td_b hb)
  obtain ⟨v, M2, n1, n2, n3, n4, n5⟩ := s_numeral xs d (h := h) (a := a) b1 t3 (lo := lo) (hi := hi) (by omega) (by omega) (l := nI lo) (g := nI hi) rfl rfl
  have b2 := n2.b b1
  have l1 : (M2.2.1 1).length = 16 := b2.2.2 1 (by decide)
  have rd := p_reads xs (d + 4) (h := h) (a := a) (M := M2) (k := w) l1 (by omega) (v := nI w) rfl (nI v)
  have q9 : M.1 9 = 0 := hs.1
  refine ⟨v, upR M2 1 (8 + w) (nI v), ?_, tsc_up (t2.t n2), n4, st_up n3, fun j hj => n5 _ j rfl hj⟩
  rw [iq_Mod_line_39]
  simp only [↓pM_Ib, q9, ↓pM_pfb]
  rw [if_pos trivial]
  have t1' : ia_cal xs (d + 5) im_Mod_token [.ref a] (pM h a (gI M 2 (M.1 2 ||| ((1 : Int32) <<< (nI w &&& 31))))) = some (none, pM h a M1) := t1
  rcases hw with ⟨rfl, rfl, rfl⟩ | ⟨rfl, rfl, rfl⟩ | ⟨rfl, rfl, rfl⟩
  · have n1' : ia_cal xs (d + 5) im_Mod_numeral [.ref a, .int 1, .int 6] (pM h a M1) = some (some (.int (nI v)), pM h a M2) := n1
    have rd' : ia_cal xs (d + 5) im_Mod_reads [.ref a, .int 4, .int (nI v)] (pM h a M2) = _ := rd
    simp only [↓pM_clsb, ↓cV_of t1', ↓if_n (show ¬ nI 4 = (0 : Int32) by decide), ↓if_n (show ¬ nI 4 = (1 : Int32) by decide), ↓if_n (show ¬ nI 4 = (2 : Int32) by decide), ↓if_n (show ¬ nI 4 = (3 : Int32) by decide), ↓if_p (show nI 4 = (4 : Int32) from rfl), ↓cI_of n1', ↓cV_of rd']
    rfl
  · have n1' : ia_cal xs (d + 5) im_Mod_numeral [.ref a, .int 1, .int 9] (pM h a M1) = some (some (.int (nI v)), pM h a M2) := n1
    have rd' : ia_cal xs (d + 5) im_Mod_reads [.ref a, .int 5, .int (nI v)] (pM h a M2) = _ := rd
    simp only [↓pM_clsb, ↓cV_of t1', ↓if_n (show ¬ nI 5 = (0 : Int32) by decide), ↓if_n (show ¬ nI 5 = (1 : Int32) by decide), ↓if_n (show ¬ nI 5 = (2 : Int32) by decide), ↓if_n (show ¬ nI 5 = (3 : Int32) by decide), ↓if_n (show ¬ nI 5 = (4 : Int32) by decide), ↓if_p (show nI 5 = (5 : Int32) from rfl), ↓cI_of n1', ↓cV_of rd']
    rfl
  · have n1' : ia_cal xs (d + 5) im_Mod_numeral [.ref a, .int 0, .int 99999] (pM h a M1) = some (some (.int (nI v)), pM h a M2) := n1
    have rd' : ia_cal xs (d + 5) im_Mod_reads [.ref a, .int 6, .int (nI v)] (pM h a M2) = _ := rd
    simp only [↓pM_clsb, ↓cV_of t1', ↓if_n (show ¬ nI 6 = (0 : Int32) by decide), ↓if_n (show ¬ nI 6 = (1 : Int32) by decide), ↓if_n (show ¬ nI 6 = (2 : Int32) by decide), ↓if_n (show ¬ nI 6 = (3 : Int32) by decide), ↓if_n (show ¬ nI 6 = (4 : Int32) by decide), ↓if_n (show ¬ nI 6 = (5 : Int32) by decide), ↓if_p (show nI 6 = (6 : Int32) from rfl), ↓cI_of n1', ↓cV_of rd']
    rfl
end FX3
