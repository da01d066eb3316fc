/-! text: lines of the reference: prices, tones, people, numbers. -/
theorem tsc_gA {M M' : aG} (h : tsc M M') {k : Nat} {l l' : List Int32} (e : l = l') : tsc (gA M k l) (gA M' k l') := by
  rw [e]
  refine ⟨Prod.ext ?_ ?_, h.2⟩
  · show va_up M'.2.1 k l' = va_up M.2.1 k l'
    rw [h.1]
  · show M'.2.2 = M.2.2
    rw [h.1]
theorem bM_gA {N M : aG} {by_ : Nat → Nat} {T : Nat} (h : bM N M by_ T) {k : Nat} {l : List Int32} (hk : k ≠ 0) (hl : l.length = (M.2.1 k).length) : bM N (gA M k l) by_ T := by
  obtain ⟨⟨b1, b2, b3, b4⟩, b5, b6⟩ := h
  have e0 : (gA M k l).2.1 0 = M.2.1 0 := gA_n (Ne.symm hk)
  refine ⟨⟨b1, b2, by rw [e0]; exact b3, fun i hi => by unfold fG; rw [e0]; exact b4 i hi⟩, b5, fun j hj => ?_⟩
  by_cases c : j = k
  · rw [c, gA_s, hl]
    rw [← c]
    exact b6 j hj
  · rw [gA_n c]
    exact b6 j hj
theorem stM_1 {M M' : aG} {by_ : Nat → Nat} {T : Nat} {s : Sum (Nat × Nat) Nat} (h : stM M by_ T s) (e : ∀ k, 5 ≤ k → k ≤ 10 → M'.1 k = M.1 k) : stM M' by_ T s := by
  cases s with
  | inl f => exact ⟨(e 9 (by decide) (by decide)).trans h.1, (e 10 (by decide) (by decide)).trans h.2.1, h.2.2⟩
  | inr i =>
    obtain ⟨h1, ⟨h2, h3, h4, h5⟩, h6, h10⟩ := h
    exact ⟨(e 9 (by decide) (by decide)).trans h1, ⟨(e 5 (by decide) (by decide)).trans h2, (e 6 (by decide) (by decide)).trans h3, (e 7 (by decide) (by decide)).trans h4, by rw [e 8 (by decide) (by decide)]; exact h5⟩, h6, (e 10 (by decide) (by decide)).trans h10⟩
/-- the word was told -/
def tdM (M : aG) (w : Nat) : aG := gI M 2 (M.1 2 ||| ((1 : Int32) <<< (nI w &&& 31)))
theorem td_b {N M : aG} {by_ : Nat → Nat} {T w : Nat} (h : bM N M by_ T) : bM N (tdM M w) by_ T := h
theorem td_s {M : aG} {by_ : Nat → Nat} {T w : Nat} {s : Sum (Nat × Nat) Nat} (h : stM M by_ T s) : stM (tdM M w) by_ T s := stM_1 h (fun k h1 h2 => gI_n (by omega))
/-- a row's upper half written, a number counted up -/
def upR (M : aG) (k j : Nat) (v : Int32) : aG := gA M k ((M.2.1 k).set j v)
theorem tsc_up {M M' : aG} (h : tsc M M') {k j : Nat} {v : Int32} : tsc (upR M k j v) (upR M' k j v) := tsc_gA h (by rw [h.1])
theorem bM_up {N M : aG} {by_ : Nat → Nat} {T k j : Nat} {v : Int32} (h : bM N M by_ T) (hk : k ≠ 0) : bM N (upR M k j v) by_ T := bM_gA h hk (List.length_set ..)
theorem st_up {M : aG} {by_ : Nat → Nat} {T k j : Nat} {v : Int32} {s : Sum (Nat × Nat) Nat} (h : stM M by_ T s) : stM (upR M k j v) by_ T s := stM_1 h (fun _ _ _ => rfl)
section FX2
variable (xs : List Int32) (d : Nat) {h : ia_H} {a : Nat} {M N : aG} {by_ : Nat → Nat} {T : Nat} {i : Nat} {n : Nat}
theorem s_count (hb : bM N M by_ T) {k n : Nat} (hk : k < 8) (hn : fG M 1 (8 + k) = nI n) {v : Int32} (hv : v = nI k) : ia_cal xs (d + 1) im_Mod_fresher [.ref a, .int v] (pM h a M) = some (some (.int (nI n)), pM h a M) ∧ ∀ w, ia_cal xs (d + 1) im_Mod_reads [.ref a, .int v, .int w] (pM h a M) = some (none, pM h a (upR M 1 (8 + k) w)) := by
  have l1 : (M.2.1 1).length = 16 := hb.2.2 1 (by decide)
  have fr := p_fresher xs d (h := h) (a := a) (M := M) l1 hk hv
  rw [hn] at fr
  exact ⟨fr, fun w => p_reads xs d (h := h) (a := a) (M := M) l1 hk hv w⟩
theorem up_wr (hb : bM N M by_ T) {k j : Nat} (hk : k < 39) (hj : j < mlen k) (h31 : mlen k < 2 ^ 31) (v : Int32) : wr (M.2.1 k) (nI j) v = some ((M.2.1 k).set j v) := wr_nI (by omega) (by rw [hb.2.2 k hk]; exact hj)
theorem l_price (hb : bM N M by_ T) (hs : stM M by_ T (.inr i)) (hn : fG M 1 10 = nI n) (hn6 : n < 6) {F : Nat} : ∃ v1 v2 M', ia_qr xs (ia_cal xs (d + 5)) im_Mod_line (F + 1) 39 [.ref a, .int (nI 2), .float 0, .float 0, .float 0] [] (pM h a M) = ia_qr xs (ia_cal xs (d + 5)) im_Mod_line F 200 [.ref a, .float 0, .float 0, .float 0, .float 0] [] (pM h a M') ∧ tsc (upR (upR (upR (tdM M 2) 8 (6 + n) (nI v1)) 9 (6 + n) (nI v2)) 1 10 (nI (n + 1))) M' ∧ v1 ≤ 99 ∧ v2 ≤ 99 ∧ stM M' by_ T (nb (nuS by_ T 0 99) (nuS by_ T 0 99 (tkJ by_ T i))) ∧ ∀ j, nuS by_ T 0 99 (tkJ by_ T i) = .inr j → v1 = tkV by_ T (tkJ by_ T i) ∧ ∀ j', nuS by_ T 0 99 j = .inr j' → v2 = tkV by_ T j := by
  obtain ⟨M1, t1, t2, t3⟩ := s_token xs (d + 1) (h := h) (a := a) (td_b (w := 2) hb) (td_s hs)
  have b1 := t2.b (td_b hb)
  have c1 := s_count xs (d + 4) (h := h) (a := a) b1 (k := 2) (n := n) (by decide) (by rw [t2.f]; exact hn) (v := 2) rfl
  obtain ⟨v1, M2, n1, n2, n3, n4, n5⟩ := s_numeral xs d (h := h) (a := a) b1 t3 (lo := 0) (hi := 99) (by decide) (by decide) (l := 0) (g := 99) rfl rfl
  have b2 := n2.b b1
  have e6 : (6 : Int32) + nI n = nI (6 + n) := nI_add 6 n
  have w1 := up_wr b2 (k := 8) (j := 6 + n) (by decide) (by show 6 + n < 12; omega) (by decide) (nI v1)
  obtain ⟨v2, M3, m1, m2, m3, m4, m5⟩ := s_numeral xs d (h := h) (a := a) (M := upR M2 8 (6 + n) (nI v1)) (bM_up b2 (by decide)) (st_up n3) (lo := 0) (hi := 99) (by decide) (by decide) (l := 0) (g := 99) rfl rfl
  have b3 := m2.b (bM_up b2 (by decide))
  have w2 := up_wr b3 (k := 9) (j := 6 + n) (by decide) (by show 6 + n < 12; omega) (by decide) (nI v2)
  have b4 := bM_up (k := 9) (j := 6 + n) (v := nI v2) b3 (by decide)
  have ts : tsc (upR (upR (tdM M 2) 8 (6 + n) (nI v1)) 9 (6 + n) (nI v2)) (upR M3 9 (6 + n) (nI v2)) := tsc_up (tsc.t (tsc_up (t2.t n2)) m2)
  have c2 := s_count xs (d + 4) (h := h) (a := a) b4 (k := 2) (n := n) (by decide) (by rw [ts.f]; exact hn) (v := 2) rfl
  have q9 : M.1 9 = 0 := hs.1
  refine ⟨v1, v2, upR (upR M3 9 (6 + n) (nI v2)) 1 10 (nI (n + 1)), ?_, tsc_up ts, n4, m4, st_up (st_up m3), fun j hj => ⟨n5 _ j rfl hj, fun j' hj' => m5 j j' (by show nb (nuS by_ T 0 99) (.inr (tkJ by_ T i)) = _; exact hj) hj'⟩⟩
  rw [iq_Mod_line_39]
  simp only [↓pM_Ib, q9, ↓pM_pfb]
  rw [if_pos trivial]
  have t1' : ia_cal xs (d + 5) im_Mod_token [.ref a] (pM h a (gI M 2 (M.1 2 ||| ((1 : Int32) <<< (nI 2 &&& 31))))) = some (none, pM h a M1) := t1
  have u2 : (upR M3 9 (6 + n) (nI v2)) = gA M3 9 ((M3.2.1 9).set (6 + n) (nI v2)) := rfl
  have u1 : (upR M2 8 (6 + n) (nI v1)) = gA M2 8 ((M2.2.1 8).set (6 + n) (nI v1)) := rfl
  rw [u1] at m1
  rw [u2] at c2
  simp only [↓pM_clsb, ↓cV_of t1', ↓if_n (show ¬ nI 2 = (0 : Int32) by decide), ↓if_n (show ¬ nI 2 = (1 : Int32) by decide), ↓if_p (show nI 2 = (2 : Int32) from rfl), ↓cI_of c1.1, ↓pM_Rb, ↓cI_of n1, e6, ↓pM_stb, ↓bs w1, ↓cI_of m1, ↓bs w2, ↓cI_of c2.1, nI_1, ↓cV_of (c2.2 _)]
  rfl
end FX2
