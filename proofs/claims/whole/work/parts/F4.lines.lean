/-! text: lines of the reference: calls and laws. -/
section FX4
variable (xs : List Int32) (d : Nat) {h : ia_H} {a : Nat} {M N : aG} {by_ : Nat → Nat} {T : Nat} {i : Nat} {n p : Nat}
def seS (by_ : Nat → Nat) (T : Nat) (v0 v1 : Int32) (j : Nat) : Sum (Nat × Nat) Nat := if v1 = v0 then .inl (5, tkP by_ T j) else .inr j
theorem l_ring0 (hb : bM N M by_ T) {s : Sum (Nat × Nat) Nat} (hs : stM M by_ T s) (hp : fG M 1 8 = nI p) (hp6 : p ≤ 6) (hn : fG M 1 11 = nI n) (hn8 : n < 10) : ∃ v0 v1 v2 v3 M', ia_cal xs (d + 7) im_Mod_ringLine [.ref a, .int (nI (10 + n))] (pM h a M) = some (none, pM h a M') ∧ tsc (upR (upR (upR (upR (upR M 10 (10 + n) v0) 11 (10 + n) v1) 12 (10 + n) (nI v2)) 13 (10 + n) (nI v3)) 1 11 (nI (n + 1))) M' ∧ v2 ≤ 99 ∧ v3 ≤ 9 ∧ stM M' by_ T (nb (nuS by_ T 1 9) (nb (nuS by_ T 0 99) (nb (fun i => .inr (tkJ by_ T i)) (nb (seS by_ T v0 v1) (nb (maS (fun i => fG M 2 (6 + i)) p by_ T) (nb (fun i => .inr (tkJ by_ T i)) (nb (maS (fun i => fG M 2 (6 + i)) p by_ T) s))))))) ∧ ∀ i j, s = .inr i → maS (fun i => fG M 2 (6 + i)) p by_ T i = .inr j → v0 = fnN (fun i => fG M 2 (6 + i)) p (tkV by_ T i) ∧ ∀ j2, maS (fun i => fG M 2 (6 + i)) p by_ T (tkJ by_ T j) = .inr j2 → v1 = fnN (fun i => fG M 2 (6 + i)) p (tkV by_ T (tkJ by_ T j)) ∧ ∀ j3, seS by_ T v0 v1 j2 = .inr j3 → ∀ j4, nuS by_ T 0 99 (tkJ by_ T j3) = .inr j4 → v2 = tkV by_ T (tkJ by_ T j3) ∧ ∀ j5, nuS by_ T 1 9 j4 = .inr j5 → v3 = tkV by_ T j4 := by
  obtain ⟨v0, M1, f1, f2, f3, f4⟩ := s_manAhead xs d (h := h) (a := a) hb hs (p := p) hp6 hp
  have b1 := f2.b hb
  have w0 := up_wr b1 (k := 10) (j := 10 + n) (by decide) (by show 10 + n < 20; omega) (by decide) v0
  have b1' := bM_up (k := 10) (j := 10 + n) (v := v0) b1 (by decide)
  have ts1 : tsc (upR M 10 (10 + n) v0) (upR M1 10 (10 + n) v0) := tsc_up f2
  obtain ⟨v1, M2, g1, g2, g3, g4⟩ := s_manAt xs (d + 4) (h := h) (a := a) (M := upR M1 10 (10 + n) v0) b1' (st_up f3) (p := p) hp6 (by rw [ts1.f]; exact hp)
  have en : (fun i => fG (upR M1 10 (10 + n) v0) 2 (6 + i)) = fun i => fG M 2 (6 + i) := funext fun i => ts1.f 2 (6 + i)
  rw [en] at g3 g4
  have b2 := g2.b b1'
  have w1 := up_wr b2 (k := 11) (j := 10 + n) (by decide) (by show 10 + n < 20; omega) (by decide) v1
  have b2' := bM_up (k := 11) (j := 10 + n) (v := v1) b2 (by decide)
  have ts2 : tsc (upR (upR M 10 (10 + n) v0) 11 (10 + n) v1) (upR M2 11 (10 + n) v1) := tsc_up (ts1.t g2)
  have l10 : (M.2.1 10).length = 20 := hb.2.2 10 (by decide)
  have l11 : (M.2.1 11).length = 20 := hb.2.2 11 (by decide)
  have rd11 : rd ((upR M2 11 (10 + n) v1).2.1 11) (nI (10 + n)) = some v1 := by
    have e : (upR M2 11 (10 + n) v1).2.1 11 = (M2.2.1 11).set (10 + n) v1 := gA_s
    have l : (M2.2.1 11).length = 20 := b2.2.2 11 (by decide)
    rw [e, rdN (by rw [List.length_set]; omega) (by rw [List.length_set]; omega), ia_set_getD (by omega), if_pos rfl]
  have rd10 : rd ((upR M2 11 (10 + n) v1).2.1 10) (nI (10 + n)) = some v0 := by
    rw [ts2.1]
    have e : (upR (upR M 10 (10 + n) v0) 11 (10 + n) v1).2.1 10 = (M.2.1 10).set (10 + n) v0 := rfl
    rw [e, rdN (by rw [List.length_set]; omega) (by rw [List.length_set]; omega), ia_set_getD (by omega), if_pos rfl]
  have tail : ∀ M3 s3, tsc (upR (upR M 10 (10 + n) v0) 11 (10 + n) v1) M3 → bM N M3 by_ T → stM M3 by_ T s3 → ∀ F, ∃ v2 v3 M', ia_qr xs (ia_cal xs (d + 6)) im_Mod_ringLine (F + 1) 27 [.ref a, .int (nI (10 + n))] [] (pM h a M3) = some (none, pM h a M') ∧ tsc (upR (upR (upR (upR (upR M 10 (10 + n) v0) 11 (10 + n) v1) 12 (10 + n) (nI v2)) 13 (10 + n) (nI v3)) 1 11 (nI (n + 1))) M' ∧ v2 ≤ 99 ∧ v3 ≤ 9 ∧ stM M' by_ T (nb (nuS by_ T 1 9) (nb (nuS by_ T 0 99) (nb (fun i => .inr (tkJ by_ T i)) s3))) ∧ ∀ j3, s3 = .inr j3 → ∀ j4, nuS by_ T 0 99 (tkJ by_ T j3) = .inr j4 → v2 = tkV by_ T (tkJ by_ T j3) ∧ ∀ j5, nuS by_ T 1 9 j4 = .inr j5 → v3 = tkV by_ T j4 := fun M3 s3 t3 b3 st3 F => by
    obtain ⟨M4, k1, k2, k3⟩ := s_goOn xs (d + 1) (h := h) (a := a) b3 st3
    have b4 := k2.b b3
    obtain ⟨v2, M5, n1, n2, n3, n4, n5⟩ := s_numeral xs (d + 1) (h := h) (a := a) b4 k3 (lo := 0) (hi := 99) (by decide) (by decide) (l := 0) (g := 99) rfl rfl
    have b5 := n2.b b4
    have w2 := up_wr b5 (k := 12) (j := 10 + n) (by decide) (by show 10 + n < 20; omega) (by decide) (nI v2)
    obtain ⟨v3, M6, m1, m2, m3, m4, m5⟩ := s_numeral xs (d + 1) (h := h) (a := a) (M := upR M5 12 (10 + n) (nI v2)) (bM_up b5 (by decide)) (st_up n3) (lo := 1) (hi := 9) (by decide) (by decide) (l := 1) (g := 9) rfl rfl
    have b6 := m2.b (bM_up b5 (by decide))
    have w3 := up_wr b6 (k := 13) (j := 10 + n) (by decide) (by show 10 + n < 20; omega) (by decide) (nI v3)
    have b7 := bM_up (k := 13) (j := 10 + n) (v := nI v3) b6 (by decide)
    have ts : tsc (upR (upR (upR (upR M 10 (10 + n) v0) 11 (10 + n) v1) 12 (10 + n) (nI v2)) 13 (10 + n) (nI v3)) (upR M6 13 (10 + n) (nI v3)) := tsc_up (tsc.t (tsc_up ((t3.t k2).t n2)) m2)
    have c2 := s_count xs (d + 5) (h := h) (a := a) b7 (k := 3) (n := n) (by decide) (by rw [ts.f]; exact hn) (v := 3) rfl
    refine ⟨v2, v3, upR (upR M6 13 (10 + n) (nI v3)) 1 11 (nI (n + 1)), ?_, tsc_up ts, n4, m4, st_up (st_up m3), fun j3 h3 j4 h4 => ⟨n5 (tkJ by_ T j3) j4 (by rw [h3]; rfl) h4, fun j5 h5 => m5 j4 j5 (by rw [h3]; exact h4) h5⟩⟩
    have u1 : (upR M5 12 (10 + n) (nI v2)) = gA M5 12 ((M5.2.1 12).set (10 + n) (nI v2)) := rfl
    have u2 : (upR M6 13 (10 + n) (nI v3)) = gA M6 13 ((M6.2.1 13).set (10 + n) (nI v3)) := rfl
    rw [u1] at m1
    rw [u2] at c2
    rw [iq_Mod_ringLine_27]
    simp only [↓pM_clsb, ↓cV_of k1, ↓pM_Rb, ↓cI_of n1, ↓pM_stb, ↓bs w2, ↓cI_of m1, ↓bs w3, ↓cI_of c2.1, nI_1, ↓cV_of (c2.2 _)]
    rfl
  rw [iu_Mod_ringLine, show (1000000 : Nat) = 999998 + 1 + 1 from rfl, iq_Mod_ringLine_0]
  have u0 : (upR M1 10 (10 + n) v0) = gA M1 10 ((M1.2.1 10).set (10 + n) v0) := rfl
  rw [u0] at g1
  have st2 : stM (upR M2 11 (10 + n) v1) by_ T (nb (maS (fun i => fG M 2 (6 + i)) p by_ T) (nb (fun i => .inr (tkJ by_ T i)) (nb (maS (fun i => fG M 2 (6 + i)) p by_ T) s))) := st_up g3
  have u1 : gA M2 11 ((M2.2.1 11).set (10 + n) v1) = upR M2 11 (10 + n) v1 := rfl
  simp only [↓pM_Rb, ↓pM_clsb, ↓cI_of f1, ↓pM_stb, ↓bs w0, ↓cI_of g1, ↓bs w1, u1, ↓pM_Ib, ↓pM_ldb, ↓bs rd11, ↓bs rd10]
  have fin : ∀ i j, s = .inr i → maS (fun i => fG M 2 (6 + i)) p by_ T i = .inr j → v0 = fnN (fun i => fG M 2 (6 + i)) p (tkV by_ T i) ∧ ∀ j2, maS (fun i => fG M 2 (6 + i)) p by_ T (tkJ by_ T j) = .inr j2 → v1 = fnN (fun i => fG M 2 (6 + i)) p (tkV by_ T (tkJ by_ T j)) ∧ nb (maS (fun i => fG M 2 (6 + i)) p by_ T) (nb (fun i => .inr (tkJ by_ T i)) (nb (maS (fun i => fG M 2 (6 + i)) p by_ T) s)) = .inr j2 := fun i j h1 h2 => ⟨f4 i j h1 h2, fun j2 h3 => ⟨g4 (tkJ by_ T j) j2 (by rw [h1]; show nb _ (maS _ p by_ T i) = _; rw [h2]; rfl) h3, by rw [h1]; show nb _ (nb _ (maS _ p by_ T i)) = _; rw [h2]; exact h3⟩⟩
  generalize nb (maS (fun i => fG M 2 (6 + i)) p by_ T) (nb (fun i => .inr (tkJ by_ T i)) (nb (maS (fun i => fG M 2 (6 + i)) p by_ T) s)) = s2 at *
  have q9 : (upR M2 11 (10 + n) v1).1 9 = M2.1 9 := rfl
  cases s2 with
  | inl f =>
    rw [if_neg st2.n9]
    obtain ⟨v2, v3, M', e1, e2, e3, e4, e5, e6⟩ := tail (upR M2 11 (10 + n) v1) (.inl f) ts2 b2' st2 999998
    refine ⟨v0, v1, v2, v3, M', e1, e2, e3, e4, e5, fun i j h1 h2 => ⟨(fin i j h1 h2).1, fun j2 h3 => ⟨((fin i j h1 h2).2 j2 h3).1, fun j3 h4 => by have := ((fin i j h1 h2).2 j2 h3).2; cases this⟩⟩⟩
  | inr j0 =>
    have h9 : (upR M2 11 (10 + n) v1).1 9 = 0 := st2.1
    have h6 : (upR M2 11 (10 + n) v1).1 6 = nI (tkP by_ T j0) := st2.2.1.2.1
    rw [if_pos h9]
    by_cases c : v1 = v0
    · rw [if_pos c, cV_of (p_wrong xs (d + 5) (k := 5) (v := 5) h9 h6 rfl)]
      obtain ⟨v2, v3, M', e1, e2, e3, e4, e5, e6⟩ := tail (flM (upR M2 11 (10 + n) v1) 5 (tkP by_ T j0)) (.inl (5, tkP by_ T j0)) (ts2.t tsc_fl) (tsc_fl.b b2') (st_fl (by decide) (by decide)) 999998
      refine ⟨v0, v1, v2, v3, M', e1, e2, e3, e4, ?_, fun i j h1 h2 => ⟨(fin i j h1 h2).1, fun j2 h3 => ⟨((fin i j h1 h2).2 j2 h3).1, fun j3 h4 => by unfold seS at h4; rw [if_pos c] at h4; cases h4⟩⟩⟩
      show stM M' by_ T (nb _ (nb _ (nb _ (seS by_ T v0 v1 j0))))
      unfold seS
      rw [if_pos c]
      exact e5
    · rw [if_neg c]
      obtain ⟨v2, v3, M', e1, e2, e3, e4, e5, e6⟩ := tail (upR M2 11 (10 + n) v1) (.inr j0) ts2 b2' st2 999998
      refine ⟨v0, v1, v2, v3, M', e1, e2, e3, e4, ?_, fun i j h1 h2 => ⟨(fin i j h1 h2).1, fun j2 h3 => ⟨((fin i j h1 h2).2 j2 h3).1, fun j3 h4 => ?_⟩⟩⟩
      · show stM M' by_ T (nb _ (nb _ (nb _ (seS by_ T v0 v1 j0))))
        unfold seS
        rw [if_neg c]
        exact e5
      · have z := ((fin i j h1 h2).2 j2 h3).2
        cases z
        unfold seS at h4
        rw [if_neg c] at h4
        cases h4
        exact e6 j0 rfl
end FX4
