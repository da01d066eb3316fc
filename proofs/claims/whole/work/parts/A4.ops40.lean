/-! feed, the answer. -/
theorem rem_20 : ∀ i, i < 20 → (24 : Int32) - 8 * (nI i - nI i / 4 * 4) = nI (24 - 8 * (i % 4)) := by decide +kernel
def vs5 (v1 v2 v3 v4 v5 : Int32) (k : Nat) : Int32 := if k = 0 then v1 else if k = 1 then v2 else if k = 2 then v3 else if k = 3 then v4 else v5
/-- the byte at a place, as the reference tapes it -/
def byR (v : Int32) (s : Nat) : Int32 := (v >>> (nI s &&& 31)) &&& 255
def fdR (l : List Int32) (f : Nat → Int32) (T : Nat) : Nat → List Int32
  | 0 => l
  | i + 1 => (fdR l f T i).set (T + i) (f i)
theorem fd_len {l : List Int32} {f : Nat → Int32} {T : Nat} : ∀ i, (fdR l f T i).length = l.length
  | 0 => rfl
  | i + 1 => by rw [fdR, List.length_set, fd_len i]
theorem fd_get {l : List Int32} {f : Nat → Int32} {T : Nat} : ∀ i, T + i ≤ l.length → ∀ j, (fdR l f T i).getD j 0 = if T ≤ j ∧ j < T + i then f (j - T) else l.getD j 0
  | 0, _, j => by rw [if_neg (by omega)]; rfl
  | i + 1, hT, j => by
    rw [fdR, ia_set_getD (by rw [fd_len]; omega), fd_get i (by omega) j]
    by_cases c : j = T + i
    · rw [if_pos c, if_pos (by omega), show j - T = i by omega]
    · rw [if_neg c]
      by_cases c2 : T ≤ j ∧ j < T + i
      · rw [if_pos c2, if_pos (by omega)]
      · rw [if_neg c2, if_neg (by omega)]
/-- numbers onto the tape -/
def tpK (N : aG) (vs : Nat → Int32) (T : Nat) : Nat → aG
  | 0 => N
  | k + 1 => tpN (tpK N vs T k) (vs k) (T + 4 * k) 4
section O40
variable (xs : List Int32) (d : Nat) {H h : ia_H} {x a : Nat} {C : aC} {M M' : aG} {σ : Bool} {p n r t t0 q : Nat}
theorem tk_len {N : aG} {vs : Nat → Int32} {T : Nat} : ∀ k, ((tpK N vs T k).2.1 0).length = (N.2.1 0).length
  | 0 => rfl
  | k + 1 => by rw [tpK, tp_len, tk_len k]
theorem tk_I {N : aG} {vs : Nat → Int32} {T : Nat} (h : N.1 0 = nI T) : ∀ k, (tpK N vs T k).1 0 = nI (T + 4 * k)
  | 0 => h
  | k + 1 => by
    rw [tpK, tp_I (tk_I h k) 4]
    rfl
theorem tk_k {N : aG} {vs : Nat → Int32} {T : Nat} : ∀ k, (∀ j, j ≠ 0 → (tpK N vs T k).1 j = N.1 j) ∧ (tpK N vs T k).2.2 = N.2.2
  | 0 => ⟨fun _ _ => rfl, rfl⟩
  | k + 1 => by
    obtain ⟨h1, h2⟩ := tk_k (N := N) (vs := vs) (T := T) k
    obtain ⟨g1, -, g3⟩ := tp_k (N := tpK N vs T k) (v := vs k) (T := T + 4 * k) 4
    exact ⟨fun j hj => (g1 j hj).trans (h1 j hj), g3.trans h2⟩
theorem tk_get {N : aG} {vs : Nat → Int32} {T : Nat} (hl : (N.2.1 0).length = 700) : ∀ k, T + 4 * k ≤ 700 → ∀ j, fG (tpK N vs T k) 0 j = if T ≤ j ∧ j < T + 4 * k then byC (vs ((j - T) / 4)) (24 - 8 * ((j - T) % 4)) else fG N 0 j
  | 0, _, j => by rw [if_neg (by omega)]; rfl
  | k + 1, hT, j => by
    rw [tpK, tp_get (by rw [tk_len, hl]) 4 (by omega) (by omega) j, tk_get hl k (by omega) j]
    by_cases c : T + 4 * k ≤ j ∧ j < T + 4 * k + 4
    · rw [if_pos c, if_pos (by omega), show (j - T) / 4 = k by omega, show (j - T) % 4 = j - (T + 4 * k) by omega]
    · rw [if_neg c]
      by_cases c2 : T ≤ j ∧ j < T + 4 * k
      · rw [if_pos c2, if_pos (by omega)]
      · rw [if_neg c2, if_neg (by omega)]
theorem e_num {N : aG} {vs : Nat → Int32} {T : Nat} (q : fx x C σ) (hN : C.1 0 = N) (hT : N.1 0 = nI T) (hl : (N.2.1 0).length = 700) {k : Nat} (hk : T + 4 * k + 4 ≤ 700) : ia_cal xs (d + 1) im_Eng_tapeNumber [.ref x, .int (vs k)] (tot H x (uG C 0 (tpK N vs T k))) = some (none, tot H x (uG C 0 (tpK N vs T (k + 1)))) := by
  have := e_tape xs d (H := H) (x := x) (C := uG C 0 (tpK N vs T k)) (T := T + 4 * k) (fx0 q (by rw [hN]; exact (tk_k k).2)) (by rw [uG_s]; exact tk_I hT k) (by rw [uG_s, tk_len, hl]) (by omega) (vs k)
  rw [uG_s, uG_G] at this
  exact this
theorem TXr.s0 {S L : aG} {F : aW} (h : TXr S L F M p n r t0) (hl : lnM M') (e : ∀ k, k ≠ 0 → M'.2.1 k = M.2.1 k) : TXr S L F M' p n r t0 := by
  have f : ∀ k, k ≠ 0 → fG M' k = fG M k := fun k hk => by unfold fG; rw [e k hk]
  have g : stg M' = stg M := by
    funext k i
    unfold stg
    rw [f 1 (by decide), f 4 (by decide), f 5 (by decide), f 6 (by decide), f 7 (by decide), f 12 (by decide), f 13 (by decide)]
  have gw : stW M' F = stW M F := by
    unfold stW
    rw [g, f 1 (by decide)]
  obtain ⟨h1, h2, h3, h4, h5, h6, h7, h8, h9, h10, h11, h12⟩ := h
  refine ⟨h1, h2, ?_, ?_, ?_, ?_, ?_, ?_, h9, h10, ?_, by rw [gw]; exact h12⟩
  · unfold rsM at *
    rw [f 1 (by decide), f 3 (by decide), f 8 (by decide), f 9 (by decide), f 14 (by decide), f 15 (by decide), f 16 (by decide), f 17 (by decide)]
    exact ⟨hl, h3.2⟩
  · rw [f 2 (by decide)]; exact h4
  · rw [f 1 (by decide)]; exact h5
  · rw [f 1 (by decide)]; exact h6
  · rw [f 1 (by decide)]; exact h7
  · rw [f 1 (by decide)]; exact h8
  · unfold cmM at *
    rw [f 10 (by decide), f 11 (by decide)]
    exact h11
theorem Rp.tape (hR : Rp x C M σ p n r t t0 q) {N : aG} {l : List Int32} {T : Nat} (hN : N.2.2 = (C.1 0).2.2) (hi : ∀ j, j ≠ 0 → N.1 j = (C.1 0).1 j) (hl : l.length = 700) (hT : TPr N (gI (gA M 0 l) 1 (nI T))) : Rp x (uG C 0 N) (gI (gA M 0 l) 1 (nI T)) σ p n r t t0 q := by
  obtain ⟨a1, a2, a3, a4, a5, a6, a7, a8, a9, a10, a11⟩ := hR
  have kSn : ∀ τ, kS τ ≠ 0 := fun τ => by cases τ <;> decide
  have kLn : ∀ τ, kL τ ≠ 0 := fun τ => by cases τ <;> decide
  have e : ∀ k, k ≠ 0 → (uG C 0 N).1 k = C.1 k := fun k hk => uG_n hk
  have r : ∀ k, k ≠ 0 → (gI (gA M 0 l) 1 (nI T)).2.1 k = M.2.1 k := fun k hk => gA_n hk
  have f : ∀ k, k ≠ 0 → fG (gI (gA M 0 l) 1 (nI T)) k = fG M k := fun k hk => by unfold fG; rw [r k hk]
  have i : ∀ k, k ≠ 1 → (gI (gA M 0 l) 1 (nI T)).1 k = M.1 k := fun k hk => gI_n hk
  have hlM : lnM (gI (gA M 0 l) 1 (nI T)) := fun k hk => by
    by_cases c : k = 0
    · subst c; show l.length = 700; exact hl
    · rw [r k c]; exact a2.2.2.1.1 k hk
  have hdk : ∀ d X t r p, dkA M d X t r p → dkA (gI (gA M 0 l) 1 (nI T)) d X t r p := fun d X t r p hh => by
    have ik : ∀ k, ikW k ≠ 0 := fun k => by unfold ikW; split <;> omega
    unfold dkA at *
    rw [f 18 (by decide), f 19 (by decide), f 20 (by decide)]
    simp only [f _ (ik _)]
    exact hh
  have hcm : ∀ X r, cmM M X r → cmM (gI (gA M 0 l) 1 (nI T)) X r := fun X r hh => by
    unfold cmM at *
    rw [f 10 (by decide), f 11 (by decide)]
    exact hh
  refine ⟨fx0 a1 hN, ?_, ⟨a3.1, hcm _ _ a3.2.1, hdk _ _ _ _ _ a3.2.2.1, a3.2.2.2⟩, ⟨(i 18 (by decide)).trans a4.1, (i 19 (by decide)).trans a4.2.1, (i 20 (by decide)).trans a4.2.2.1, (i 21 (by decide)).trans a4.2.2.2.1, a4.2.2.2.2⟩, ?_, ?_, ?_, ?_, ?_, ?_, a11⟩
  · rw [e _ (kSn σ), e _ (kLn σ)]
    exact a2.s0 hlM r
  · rw [uG_s]
    obtain ⟨g1, g2, g3⟩ := a5
    refine ⟨(hi 1 (by decide)).trans (g1.trans (i 16 (by decide)).symm), g2, ?_⟩
    rw [i 16 (by decide)]
    rcases g3 with g3 | ⟨g3, ti, qi, g4, g5, g6, g7⟩
    · exact Or.inl g3
    · exact Or.inr ⟨g3, ti, qi, g4, hcm _ _ g5, hdk _ _ _ _ _ g6, g7⟩
  · rw [e 16 (by decide)]
    exact a6.m (i 17 (by decide)) (fun d X t _ _ _ hd => hdk d X t _ _ hd)
  · rw [e 15 (by decide)]
    exact a7.s (fun k hk hk2 => r k (by omega)) (i 26 (by decide)) (i 27 (by decide))
  · rw [uG_s]; exact hT
  · rw [e 3 (by decide)]
    exact ⟨a9.1.trans (i 11 (by decide)).symm, a9.2.trans (i 12 (by decide)).symm⟩
  · obtain ⟨g1, g2, g3, g4, g5, g6, g7, g8⟩ := a10
    refine ⟨?_, ?_, g3, ?_, ?_, g6, fun τ => ?_, ?_⟩
    · rw [e _ (kSn _)]; exact g1
    · rw [e _ (kLn _)]; exact g2
    · rw [e 7 (by decide)]; exact g4
    · rw [e 6 (by decide)]; exact g5
    · rw [e _ (kSn _)]; exact g7 τ
    · rw [e 16 (by decide)]; exact g8
theorem feed_c {N : aG} {T : Nat} (q : fx x C σ) (hN : C.1 0 = N) (hT : N.1 0 = nI T) (hl : (N.2.1 0).length = 700) (hT2 : T ≤ 680) (v1 v2 v3 v4 v5 : Int32) : ∃ N', N'.2.2 = N.2.2 ∧ (∀ j, j ≠ 0 → N'.1 j = N.1 j) ∧ (N'.2.1 0).length = 700 ∧ N'.1 0 = nI (T + 20) ∧ (∀ j, fG N' 0 j = if T ≤ j ∧ j < T + 20 then byC (vs5 v1 v2 v3 v4 v5 ((j - T) / 4)) (24 - 8 * ((j - T) % 4)) else fG N 0 j) ∧ ia_cal xs (d + 20) im_Eng_feed [.ref x, .int v1, .int v2, .int v3, .int v4, .int v5] (tot H x C) = some (some (.int (nI (T + 20))), tot H x (uG C 0 N')) := by
  have num := fun (k : Nat) (hk : k < 5) => e_num xs (d + 18) (H := H) (x := x) (C := C) (vs := vs5 v1 v2 v3 v4 v5) (T := T) (k := k) q hN hT hl (by omega)
  have g2 := tk_k (N := N) (vs := vs5 v1 v2 v3 v4 v5) (T := T) 5
  have g3 := tk_len (N := N) (vs := vs5 v1 v2 v3 v4 v5) (T := T) 5
  have g4 := tk_I (vs := vs5 v1 v2 v3 v4 v5) hT 5
  have g5 := tk_get (vs := vs5 v1 v2 v3 v4 v5) (T := T) hl 5 (by omega)
  have n0 := num 0 (by omega)
  have n1 := num 1 (by omega)
  have n2 := num 2 (by omega)
  have n3 := num 3 (by omega)
  have n4 := num 4 (by omega)
  have e0 : uG C 0 (tpK N (vs5 v1 v2 v3 v4 v5) T 0) = C := by rw [tpK, ← hN, uG_id]
  rw [e0] at n0
  simp only [Nat.zero_add, Nat.reduceAdd, Nat.reduceMul] at n0 n1 n2 n3 n4 g4 g5
  generalize tpK N (vs5 v1 v2 v3 v4 v5) T 1 = N1 at *
  generalize tpK N (vs5 v1 v2 v3 v4 v5) T 2 = N2 at *
  generalize tpK N (vs5 v1 v2 v3 v4 v5) T 3 = N3 at *
  generalize tpK N (vs5 v1 v2 v3 v4 v5) T 4 = N4 at *
  generalize tpK N (vs5 v1 v2 v3 v4 v5) T 5 = N5 at *
  have m0 : ia_cal xs (d + 19) im_Eng_tapeNumber [.ref x, .int v1] (tot H x C) = some (none, tot H x (uG C 0 N1)) := n0
  have m1 : ia_cal xs (d + 19) im_Eng_tapeNumber [.ref x, .int v2] (tot H x (uG C 0 N1)) = some (none, tot H x (uG C 0 N2)) := n1
  have m2 : ia_cal xs (d + 19) im_Eng_tapeNumber [.ref x, .int v3] (tot H x (uG C 0 N2)) = some (none, tot H x (uG C 0 N3)) := n2
  have m3 : ia_cal xs (d + 19) im_Eng_tapeNumber [.ref x, .int v4] (tot H x (uG C 0 N3)) = some (none, tot H x (uG C 0 N4)) := n3
  have m4 : ia_cal xs (d + 19) im_Eng_tapeNumber [.ref x, .int v5] (tot H x (uG C 0 N4)) = some (none, tot H x (uG C 0 N5)) := n4
  have e20 : nI T + 20 = nI (T + 20) := nI_add T 20
  refine ⟨N5, g2.2, g2.1, g3.trans hl, g4, g5, ?_⟩
  rw [iu_Eng_feed, iq_Eng_feed_0]
  simp only [↓tN_Ib, hN, hT, e20, ↓if_n (show ¬ (700 : Int32) < nI (T + 20) from nI_nlt (a := 700) (by omega) (by decide)), ↓tN_clsb, ↓cV_of m0, ↓cV_of m1, ↓cV_of m2, ↓cV_of m3, ↓cV_of m4, uG_s, g4]
theorem feed_r {T : Nat} (h1 : M.1 1 = nI T) (hl : (M.2.1 0).length = 700) (hT2 : T ≤ 680) (v1 v2 v3 v4 v5 : Int32) : ∃ l : List Int32, l.length = 700 ∧ (∀ j, l.getD j 0 = if T ≤ j ∧ j < T + 20 then byR (vs5 v1 v2 v3 v4 v5 ((j - T) / 4)) (24 - 8 * ((j - T) % 4)) else fG M 0 j) ∧ ia_qr xs (ia_cal xs (d + 19)) im_Mod_feed 999999 11 [.ref a, .int v1, .int v2, .int v3, .int v4, .int v5, .int 0, .float 0] [] (pM h a M) = some (some (.int (nI (T + 20))), pM h a (gI (gA M 0 l) 1 (nI (T + 20)))) := by
  generalize hf : (fun j => byR (vs5 v1 v2 v3 v4 v5 (j / 4)) (24 - 8 * (j % 4))) = f
  have fi : ∀ i, f i = byR (vs5 v1 v2 v3 v4 v5 (i / 4)) (24 - 8 * (i % 4)) := fun i => by rw [← hf]
  have e20 : nI T + 20 = nI (T + 20) := nI_add T 20
  have gt := fd_get (l := M.2.1 0) (f := f) (T := T) 20 (by omega)
  have ln := fd_len (l := M.2.1 0) (f := f) (T := T) 20
  have loop : ∀ K, K = 20 → ∀ k i N, i + k = K → 2 * k + 1 ≤ N → ia_qr xs (ia_cal xs (d + 19)) im_Mod_feed N 11 [.ref a, .int v1, .int v2, .int v3, .int v4, .int v5, .int (nI i), .float 0] [] (pM h a (gA M 0 (fdR (M.2.1 0) f T i))) = some (some (.int (nI (T + 20))), pM h a (gI (gA M 0 (fdR (M.2.1 0) f T K)) 1 (nI (T + 20)))) := by
    intro K hK k
    induction k with
    | zero =>
      intro i N hi hN
      obtain ⟨N, rfl⟩ : ∃ k, N = k + 1 := ⟨N - 1, by omega⟩
      have : i = K := by omega
      subst this
      have j1 : ∀ l, (gA M 0 l).1 1 = nI T := fun l => h1
      have j2 : ∀ l, (gI (gA M 0 l) 1 (nI (T + 20))).1 1 = nI (T + 20) := fun l => gI_s
      rw [iq_Mod_feed_11, if_n (show ¬ nI i < (20 : Int32) from nI_nlt (b := 20) (by omega) (by omega))]
      simp only [↓pM_Ib, j1, ↓pM_pfb, e20, j2]
    | succ k ih =>
      intro i N hi hN
      obtain ⟨N, rfl⟩ : ∃ k, N = k + 1 + 1 := ⟨N - 2, by omega⟩
      have ihn := ih (i + 1) N (by omega) (by omega)
      have j1 : (gA M 0 (fdR (M.2.1 0) f T i)).1 1 = nI T := h1
      have st : ∀ s0, s0 = vs5 v1 v2 v3 v4 v5 (i / 4) → ia_qr xs (ia_cal xs (d + 19)) im_Mod_feed (N + 1) 35 [.ref a, .int v1, .int v2, .int v3, .int v4, .int v5, .int (nI i), .float 0] [.int s0] (pM h a (gA M 0 (fdR (M.2.1 0) f T i))) = some (some (.int (nI (T + 20))), pM h a (gI (gA M 0 (fdR (M.2.1 0) f T K)) 1 (nI (T + 20)))) := by
        intro s0 es
        subst es
        have ww : wr ((gA M 0 (fdR (M.2.1 0) f T i)).2.1 0) (nI (T + i)) ((vs5 v1 v2 v3 v4 v5 (i / 4) >>> (nI (24 - 8 * (i % 4)) &&& 31)) &&& 255) = some (fdR (M.2.1 0) f T (i + 1)) := by
          rw [gA_s, wr_nI (by omega) (by rw [fd_len]; omega), fdR, fi]
          rfl
        rw [iq_Mod_feed_35]
        simp only [↓pM_Rb, ↓pM_Ib, j1, ↓if_n (show ¬ (4 : Int32) = 0 by decide), nI_add, rem_20 i (show i < 20 by omega), ↓pM_stb, ↓bs ww, gA_A, nI_1]
        exact ihn
      have lt : ∀ b : Nat, b < 32 → (nI i < nI b ↔ i < b) := fun b hb => nI_ltI (by omega) (by omega)
      rw [iq_Mod_feed_11, if_p (show nI i < (20 : Int32) from nI_lt (b := 20) (by omega) (by decide))]
      by_cases c1 : i < 4
      · rw [if_pos (show nI i < (4 : Int32) from (lt 4 (by decide)).mpr c1)]
        exact st v1 (by rw [show i / 4 = 0 by omega]; rfl)
      rw [if_neg (show ¬ nI i < (4 : Int32) from fun z => c1 ((lt 4 (by decide)).mp z))]
      by_cases c2 : i < 8
      · rw [if_pos (show nI i < (8 : Int32) from (lt 8 (by decide)).mpr c2)]
        exact st v2 (by rw [show i / 4 = 1 by omega]; rfl)
      rw [if_neg (show ¬ nI i < (8 : Int32) from fun z => c2 ((lt 8 (by decide)).mp z))]
      by_cases c3 : i < 12
      · rw [if_pos (show nI i < (12 : Int32) from (lt 12 (by decide)).mpr c3)]
        exact st v3 (by rw [show i / 4 = 2 by omega]; rfl)
      rw [if_neg (show ¬ nI i < (12 : Int32) from fun z => c3 ((lt 12 (by decide)).mp z))]
      by_cases c4 : i < 16
      · rw [if_pos (show nI i < (16 : Int32) from (lt 16 (by decide)).mpr c4)]
        exact st v4 (by rw [show i / 4 = 3 by omega]; rfl)
      rw [if_neg (show ¬ nI i < (16 : Int32) from fun z => c4 ((lt 16 (by decide)).mp z))]
      exact st v5 (by rw [show i / 4 = 4 by omega]; rfl)
  have l0 := loop 20 rfl 20 0 999999 (by omega) (by omega)
  rw [show gA M 0 (fdR (M.2.1 0) f T 0) = M by rw [fdR, gA_id]] at l0
  generalize fdR (M.2.1 0) f T 20 = l at *
  refine ⟨l, ln.trans hl, fun j => ?_, l0⟩
  rw [gt j]
  simp only [fi]
  rfl
theorem op_feed (hR : Rp x C M σ p n r t t0 q) (v1 v2 v3 v4 v5 : Int32) : opI xs d H h x a C M im_Eng_feed im_Mod_feed [.int v1, .int v2, .int v3, .int v4, .int v5] := by
  have hR0 := hR.t 0
  obtain ⟨hl, T, hT, e1, e2, e3⟩ := hR0.2.2.2.2.2.2.2.1
  have hlM := hR0.2.1.2.2.1.1
  have e2' : (gI M 0 0).1 1 = nI T := e2
  have e20 : nI T + 20 = nI (T + 20) := nI_add T 20
  by_cases a1 : 680 < T
  · refine opI_of (-1) hR0.l ?_ ?_
    · rw [iu_Eng_feed, iq_Eng_feed_0]
      simp only [↓tN_Ib, e1, e20, ↓if_p (show (700 : Int32) < nI (T + 20) from nI_lt (a := 700) (by omega) (by omega))]
    · rw [iu_Mod_feed, iq_Mod_feed_0]
      simp only [↓pM_pfb, ↓pM_Ib, e2', ↓if_p (show (680 : Int32) < nI T from nI_lt (a := 680) (by omega) (by omega))]
  obtain ⟨N', c1, c2, c3, c4, c5, c6⟩ := feed_c xs d (H := H) hR.1 rfl e1 hl (by omega) v1 v2 v3 v4 v5
  obtain ⟨l, r1, r2, r3⟩ := feed_r xs d (h := h) (a := a) (M := gI M 0 0) e2' (hlM 0 (by decide)) (by omega) v1 v2 v3 v4 v5
  refine ⟨nI (T + 20), uG C 0 N', gI (gA (gI M 0 0) 0 l) 1 (nI (T + 20)), (hR0.tape c1 c2 r1 ⟨c3, T + 20, by omega, c4, gI_s, fun j hj => ?_⟩).l, c6, ?_⟩
  · have f2 : fG (gI (gA (gI M 0 0) 0 l) 1 (nI (T + 20))) 0 j = l.getD j 0 := rfl
    rw [f2, r2 j, c5 j]
    by_cases c : T ≤ j
    · rw [if_pos ⟨c, hj⟩, if_pos ⟨c, hj⟩]
      exact byC_low _ (by omega)
    · rw [if_neg (fun z => c z.1), if_neg (fun z => c z.1)]
      exact e3 j (by omega)
  · rw [iu_Mod_feed, iq_Mod_feed_0]
    simp only [↓pM_pfb, ↓pM_Ib, e2', ↓if_n (show ¬ (680 : Int32) < nI T from nI_nlt (a := 680) (by omega) (by decide))]
    exact r3
end O40
