/-! text: a token, of the reference. -/
def srK (K : Nat) : Nat := if K = 0 then 4 else if K = 1 then 5 else if K = 2 then 1 else if K = 3 then 2 else if K < 25 then 0 else 3
def rwK (K : Nat) : Nat := if K - 4 < 11 then K - 4 else if K - 4 < 18 then K - 1 else K - 11
def svL : List Nat := [59, 40, 41, 43, 45, 42, 47, 61, 60, 256, 257, 62, 258]
def svK (K : Nat) : Nat := svL.getD (K - 25) 0
/-- the reference's value of this token -/
def vOK (K V : Nat) (W : Int32) : Prop := (K = 2 → W = nI V) ∧ (K = 3 → ∃ w, w ≤ 999999 ∧ W = nI w ∧ (V = w ∨ (99999 < V ∧ 99999 < w))) ∧ (4 ≤ K → K < 25 → W = nI (rwK K)) ∧ (25 ≤ K → W = nI (svK K))
def tkM (M : aG) (K p j : Nat) (W : Int32) : aG := gI (gI (gI (gI M 5 (nI j)) 6 (nI p)) 7 (nI (srK K))) 8 W
theorem vOK_no {K V : Nat} {W : Int32} (h : K < 2) : vOK K V W := ⟨fun z => absurd z (by omega), fun z => absurd z (by omega), fun z => absurd z (by omega), fun z => absurd z (by omega)⟩
theorem vOK_2 {V : Nat} {W : Int32} (h : W = nI V) : vOK 2 V W := ⟨fun _ => h, fun z => absurd z (by decide), fun z => absurd z (by decide), fun z => absurd z (by decide)⟩
theorem cw_rw : ∀ n, n < 21 → rwK (4 + cw n) = n ∧ srK (4 + cw n) = 0 ∧ 4 + cw n < 25 := by decide +kernel
theorem sg_sv (b n : Nat) (hb : b < 256) : srK (sgF b n).1 = (if (sgF b n).1 = 1 then 5 else 3) ∧ (sgF b n).1 < 38 ∧ ((sgF b n).1 ≠ 1 → 25 ≤ (sgF b n).1 ∧ svN (sgF b n).1 b = svK (sgF b n).1) ∧ 1 ≤ (sgF b n).2 ∧ (sgF b n).2 ≤ 2 ∧ ((sgF b n).2 = 2 → n ≠ 0) := by
  have h : ∀ b, b < 256 → srK (sgK b) = (if sgK b = 1 then 5 else 3) ∧ sgK b < 38 ∧ (sgK b ≠ 1 → 25 ≤ sgK b ∧ svN (sgK b) b = svK (sgK b)) := by decide +kernel
  by_cases c1 : b = 60
  · subst c1
    by_cases c2 : n = 61
    · subst c2; decide
    · by_cases c3 : n = 62
      · subst c3; decide
      · have : sgF 60 n = (33, 1) := by unfold sgF; rw [if_pos rfl, if_neg c2, if_neg c3]
        rw [this]
        exact ⟨by decide, by decide, by decide, Nat.le_refl 1, by decide, fun z => absurd z (by decide : ¬ (1 : Nat) = 2)⟩
  · by_cases c2 : b = 62
    · subst c2
      by_cases c3 : n = 61
      · subst c3; decide
      · have : sgF 62 n = (36, 1) := by unfold sgF; rw [if_neg (by decide), if_pos rfl, if_neg c3]
        rw [this]
        exact ⟨by decide, by decide, by decide, Nat.le_refl 1, by decide, fun z => absurd z (by decide : ¬ (1 : Nat) = 2)⟩
    · have : sgF b n = (sgK b, 1) := by unfold sgF; rw [if_neg c1, if_neg c2]
      rw [this]
      obtain ⟨h1, h2, h3⟩ := h b hb
      exact ⟨h1, h2, h3, Nat.le_refl 1, (by decide : (1 : Nat) ≤ 2), fun z => absurd z (by decide : ¬ (1 : Nat) = 2)⟩
theorem wh_no {P : Nat → Bool} : ∀ k i, whN P k i < i + k → P (whN P k i) = false
  | 0, i, h => absurd h (by rw [whN]; omega)
  | k + 1, i, h => by
    rw [whN] at h ⊢
    by_cases c : P i = true
    · rw [if_pos c] at h ⊢
      exact wh_no k (i + 1) (by omega)
    · rw [if_neg c]
      cases e : P i
      · rfl
      · exact absurd e c
theorem aM4 {M Y : aG} {K p j : Nat} {W : Int32} (h2 : Y.2 = M.2) (h5 : Y.1 5 = nI j) (h6 : Y.1 6 = nI p) (h7 : Y.1 7 = nI (srK K)) (h8 : Y.1 8 = W) (hk : ∀ k, k ≠ 5 → k ≠ 6 → k ≠ 7 → k ≠ 8 → Y.1 k = M.1 k) : Y = tkM M K p j W := by
  refine Prod.ext (funext fun k => ?_) h2
  show Y.1 k = if k = 8 then W else if k = 7 then nI (srK K) else if k = 6 then nI p else if k = 5 then nI j else M.1 k
  by_cases c8 : k = 8
  · rw [if_pos c8, c8, h8]
  · rw [if_neg c8]
    by_cases c7 : k = 7
    · rw [if_pos c7, c7, h7]
    · rw [if_neg c7]
      by_cases c6 : k = 6
      · rw [if_pos c6, c6, h6]
      · rw [if_neg c6]
        by_cases c5 : k = 5
        · rw [if_pos c5, c5, h5]
        · rw [if_neg c5]
          exact hk k c5 c6 c7 c8
section DX4
variable (xs : List Int32) (d : Nat) {h : ia_H} {a : Nat} {M N : aG} {by_ : Nat → Nat} {T : Nat}
theorem p_word32 (hb : txB N M by_ T) (hL : M.1 4 = nI T) : ∀ k i F, i + k = T → k + 2 ≤ F → ∃ F', F ≤ F' + k ∧ 2 ≤ F' ∧ ia_qr xs (ia_cal xs (d + 3)) im_Mod_token F 32 [.ref a, .float 0] [] (pM h a (gI M 5 (nI i))) = ia_qr xs (ia_cal xs (d + 3)) im_Mod_token F' 32 [.ref a, .float 0] [] (pM h a (gI M 5 (nI (whN (lwB by_ T) k i)))) := by
  have hT7 := hb.1
  intro k
  induction k with
  | zero => intro i F hi hF; exact ⟨F, by omega, by omega, rfl⟩
  | succ k ih =>
    intro i F hi hF
    rw [whN]
    by_cases c : lwB by_ T i = true
    · rw [if_pos c]
      obtain ⟨F, rfl⟩ : ∃ k, F = k + 1 := ⟨F - 1, by omega⟩
      obtain ⟨F', g1, g2, g3⟩ := ih (i + 1) F (by omega) (by omega)
      obtain ⟨c1, c2, c3⟩ := of_decide_eq_true c
      obtain ⟨b1, -⟩ := hb.2.2.2 i c1
      refine ⟨F', by omega, g2, ?_⟩
      have he := p_here xs (d + 2) (h := h) (a := a) (M := gI M 5 (nI i)) (N := N) (by_ := by_) (T := T) hb hL (i := i) gI_s (by omega)
      rw [if_pos c1] at he
      have sm := p_isSmall xs (d + 2) (by_ i) b1 (pM h a (gI M 5 (nI i)))
      rw [if_pos ⟨c2, c3⟩] at sm
      have q5 : (gI M 5 (nI i)).1 5 = nI i := gI_s
      rw [iq_Mod_token_32]
      simp only [↓pM_clsb, ↓cI_of he, ↓cI_of sm]
      rw [if_neg (show ¬ (1 : Int32) = 0 by decide)]
      simp only [↓pM_Ib, q5, ↓pM_pfb, nI_1, gI_I]
      exact g3
    · rw [if_neg c]
      exact ⟨F, by omega, by omega, rfl⟩
/-- what a word comes to, of the reference -/
theorem p_wordE (hb : txB N M by_ T) (hL : M.1 4 = nI T) {s e F : Nat} (h5 : M.1 5 = nI e) (h6 : M.1 6 = nI s) (hse : s < e) (he : e ≤ T) (hd : ∀ l, l < e - s → lwB by_ T (s + l) = true) (hend : e < T → lwB by_ T e = false) : ∃ W, ia_qr xs (ia_cal xs (d + 3)) im_Mod_token (F + 2) 32 [.ref a, .float 0] [] (pM h a M) = some (none, pM h a (gI (gI M 7 (if wnF by_ s (e - s) 21 0 < 21 then 0 else if 6 < e - s then 5 else 1)) 8 W)) ∧ (wnF by_ s (e - s) 21 0 < 21 → W = nI (wnF by_ s (e - s) 21 0)) ∧ (¬ wnF by_ s (e - s) 21 0 < 21 → e - s ≤ 6 → W = nI (pkN by_ s (e - s))) := by
  have hT7 := hb.1
  have heR := p_here xs (d + 2) (h := h) (a := a) (M := M) (N := N) (by_ := by_) (T := T) hb hL (i := e) h5 (by omega)
  have sm : ia_cal xs (d + 3) im_Mod_isSmall [.int (if e < T then nI (by_ e) else -1)] (pM h a M) = some (some (.int 0), pM h a M) := by
    by_cases c : e < T
    · obtain ⟨b1, -⟩ := hb.2.2.2 e c
      have := p_isSmall xs (d + 2) (by_ e) b1 (pM h a M)
      rw [if_neg (fun z => by have := hend c; rw [show lwB by_ T e = true from decide_eq_true ⟨c, z.1, z.2⟩] at this; exact absurd this (by decide))] at this
      rw [if_pos c]
      exact this
    · rw [if_neg c, iu_Mod_isSmall, iq_Mod_isSmall_0, if_p (show (-1 : Int32) < 97 by decide), ok0]
  have wd := p_word xs d (h := h) (a := a) hb h5 h6 he (by omega)
  rw [iq_Mod_token_32]
  simp only [↓pM_clsb, ↓cI_of heR, ↓cI_of sm, ↓cI_of wd, ↓pM_pfb, ↓pM_Ib, gI_s, h5, h6]
  rw [if_pos trivial]
  have q5 : ∀ v, (gI M 8 v).1 5 = nI e := fun v => h5
  have q6 : ∀ v, (gI M 8 v).1 6 = nI s := fun v => h6
  simp only [q5, q6, pk_sub (show s ≤ e by omega)]
  have s64 : ∀ u v, u ≠ 1 → ia_qr xs (ia_cal xs (d + 3)) im_Mod_token (F + 1) 64 [.ref a, .float 0] [.int u, .ref a] (pM h a (gI M 8 v)) = some (none, pM h a (gI (gI M 7 u) 8 v)) := fun u v hu => by
    have q7 : (gI (gI M 8 v) 7 u).1 7 = u := gI_s
    rw [iq_Mod_token_64]
    simp only [↓pM_pfb, ↓pM_Ib, q7]
    rw [if_neg hu, gI_cm (show 8 ≠ 7 by decide)]
  by_cases c : wnF by_ s (e - s) 21 0 < 21
  · rw [if_pos c, if_pos c, if_neg (fun z => by have := nI_pos (show wnF by_ s (e - s) 21 0 < 2 ^ 31 by omega); rw [z] at this; exact this (by decide))]
    exact ⟨_, s64 0 _ (by decide), fun _ => rfl, fun z => absurd c z⟩
  · rw [if_neg c, if_neg c, if_pos rfl]
    by_cases c6 : 6 < e - s
    · rw [if_pos (show (6 : Int32) < nI (e - s) from nI_lt (a := 6) c6 (by omega)), if_pos c6]
      exact ⟨_, s64 5 _ (by decide), fun z => absurd z c, fun _ z => absurd c6 (by omega)⟩
    · rw [if_neg (show ¬ (6 : Int32) < nI (e - s) from nI_nlt (a := 6) (by omega) (by decide)), if_neg c6]
      refine ⟨nI (pkN by_ s (e - s)), ?_, fun z => absurd z c, fun _ _ => rfl⟩
      have q7 : (gI (gI M 8 (-1)) 7 1).1 7 = 1 := gI_s
      rw [iq_Mod_token_64]
      simp only [↓pM_pfb, ↓pM_Ib, q7, ↓pM_clsb]
      rw [if_pos trivial, cV_of (p_name xs d (h := h) (a := a) (M := gI (gI M 8 (-1)) 7 1) (N := N) (by_ := by_) (T := T) hb h5 h6 he (by omega) (by omega) hd), gI_cm (show 8 ≠ 7 by decide), gI_I]
theorem p_token (hb : txB N M by_ T) (hL : M.1 4 = nI T) (i : Nat) (hi : i ≤ T) (h5 : M.1 5 = nI i) : ∃ W, vOK (tkK by_ T i) (tkV by_ T i) W ∧ ia_cal xs (d + 4) im_Mod_token [.ref a] (pM h a M) = some (none, pM h a (tkM M (tkK by_ T i) (tkP by_ T i) (tkJ by_ T i) W)) := by
  have hT7 := hb.1
  have e0 : M = gI M 5 (nI i) := by rw [← h5, gI_id]
  rw [iu_Mod_token]
  obtain ⟨F, hF, g⟩ := p_skip xs (d + 1) (h := h) (a := a) hb hL (T - i) i 1000000 (by omega) (by omega)
  rw [← e0] at g
  rw [g]
  unfold tkK tkV tkJ
  rw [show whN (spB by_ T) (T - i) i = tkP by_ T i from rfl]
  have hs : tkP by_ T i ≤ T := by
    have := (wh_le (P := spB by_ T) (T - i) i).2
    show whN (spB by_ T) (T - i) i ≤ T
    omega
  have hns : tkP by_ T i < T → spB by_ T (tkP by_ T i) = false := fun z => wh_no (T - i) i (by show tkP by_ T i < _; omega)
  generalize tkP by_ T i = s at *
  obtain ⟨F, rfl⟩ : ∃ k, F = k + 1 + 2 + 2000 := ⟨F - 2003, by omega⟩
  have he : ∀ Y : aG, Y.1 5 = nI s → Y.1 4 = nI T → Y.2 = M.2 → ia_cal xs (d + 3) im_Mod_here [.ref a] (pM h a Y) = some (some (.int (if s < T then nI (by_ s) else -1)), pM h a Y) := fun Y y5 y4 y2 =>
    p_here xs (d + 2) (h := h) (a := a) (M := Y) (N := N) (by_ := by_) (T := T) ⟨hb.1, hb.2.1, by rw [y2]; exact hb.2.2.1, fun i hi => by unfold fG; rw [y2]; exact hb.2.2.2 i hi⟩ y4 y5 (by omega)
  have h1 := he (gI M 5 (nI s)) gI_s hL rfl
  have h2 := he (gI (gI M 5 (nI s)) 6 (nI s)) rfl hL rfl
  have q5 : (gI M 5 (nI s)).1 5 = nI s := gI_s
  rw [show F + 1 + 2 + 2000 = F + 2 + 2000 + 1 by omega, iq_Mod_token_0]
  simp only [↓pM_clsb, ↓cI_of h1, ↓pM_Ib, q5, ↓pM_pfb, ↓cI_of h2]
  generalize hY : gI (gI M 5 (nI s)) 6 (nI s) = Y at *
  have y5 : Y.1 5 = nI s := by rw [← hY]; rfl
  have y6 : Y.1 6 = nI s := by rw [← hY]; exact gI_s
  have y4 : Y.1 4 = nI T := by rw [← hY]; exact hL
  have yr : Y.2 = M.2 := by rw [← hY]; rfl
  have yb : txB N Y by_ T := ⟨hb.1, hb.2.1, by rw [yr]; exact hb.2.2.1, fun i hi => by unfold fG; rw [yr]; exact hb.2.2.2 i hi⟩
  have yk : ∀ k, k ≠ 5 → k ≠ 6 → k ≠ 7 → k ≠ 8 → Y.1 k = M.1 k := fun k a b c e => by rw [← hY, gI_n b, gI_n a]
  unfold tkS
  by_cases c : T ≤ s
  · rw [if_neg (show ¬ s < T by omega), if_neg (show ¬ (-1 : Int32) = 10 by decide), if_neg (show ¬ (-1 : Int32) = 32 by decide), if_pos rfl, if_pos c]
    refine ⟨Y.1 8, vOK_no (show (0 : Nat) < 2 by decide), ?_⟩
    rw [aM4 (M := M) (Y := gI Y 7 4) (K := 0) (p := s) (j := s) (W := Y.1 8) yr ((gI_n (by decide)).trans y5) ((gI_n (by decide)).trans y6) gI_s (gI_n (by decide)) (fun k a b c e => by rw [gI_n c, yk k a b c e])]
  · obtain ⟨b1, -⟩ := hb.2.2.2 s (by omega)
    have hsp := hns (by omega)
    have n10 : by_ s ≠ 10 := fun z => by rw [show spB by_ T s = true from decide_eq_true ⟨by omega, Or.inr z⟩] at hsp; exact absurd hsp (by decide)
    have n32 : by_ s ≠ 32 := fun z => by rw [show spB by_ T s = true from decide_eq_true ⟨by omega, Or.inl z⟩] at hsp; exact absurd hsp (by decide)
    have sm := p_isSmall xs (d + 2) (by_ s) b1 (pM h a Y)
    have dg := p_isDigit xs (d + 2) (by_ s) b1 (pM h a Y)
    rw [if_pos (show s < T by omega), if_neg (show ¬ nI (by_ s) = (10 : Int32) from fun z => n10 ((nI_eq (b := 10) (by omega) (by decide)).mp z)), if_neg (show ¬ nI (by_ s) = (32 : Int32) from fun z => n32 ((nI_eq (b := 32) (by omega) (by decide)).mp z)), if_neg (show ¬ nI (by_ s) = (-1 : Int32) from fun z => by have := nI_pos (show by_ s < 2 ^ 31 by omega); rw [z] at this; exact this (by decide)), if_neg c]
    by_cases cl : lwB by_ T s = true
    · obtain ⟨l1, l2, l3⟩ := of_decide_eq_true cl
      rw [if_pos ⟨l2, l3⟩] at sm
      rw [cI_of sm, if_neg (show ¬ (1 : Int32) = 0 by decide), if_pos cl]
      obtain ⟨F', g1, g2, g3⟩ := p_word32 xs d (h := h) (a := a) yb y4 (T - s) s (F + 2 + 2000) (by omega) (by omega)
      have ey : Y = gI Y 5 (nI s) := by rw [← y5, gI_id]
      rw [← ey] at g3
      rw [g3, show whN (lwB by_ T) (T - s) s = weN by_ T s from rfl]
      have b2 : weN by_ T s ≤ s + (T - s) := (wh_le (P := lwB by_ T) (T - s) s).2
      have b3 : s < weN by_ T s := wh_on cl (show 0 < T - s by omega)
      have b4 : ∀ j, s ≤ j → j < weN by_ T s → lwB by_ T j = true := wh_all (P := lwB by_ T) (T - s) s
      have b5 : weN by_ T s < s + (T - s) → lwB by_ T (weN by_ T s) = false := wh_no (T - s) s
      generalize weN by_ T s = e at *
      obtain ⟨F', rfl⟩ : ∃ k, F' = k + 2 := ⟨F' - 2, by omega⟩
      obtain ⟨W, r1, r2, r3⟩ := p_wordE xs d (h := h) (a := a) (M := gI Y 5 (nI e)) (N := N) (by_ := by_) (T := T) (s := s) (e := e) (F := F') yb y4 gI_s y6 b3 (by omega) (fun l hl => b4 (s + l) (by omega) (by omega)) (fun z => b5 (by omega))
      rw [r1]
      by_cases c6 : 6 < e - s
      · have cN : ¬ wnF by_ s (e - s) 21 0 < 21 := fun z => by
          have := wn_lt (by_ := by_) (i := s) (m := e - s) 21 0 (by omega)
          have w := (wo_ok _ z).2.2.2.1
          have := this.1
          omega
        rw [if_pos c6, if_pos c6, if_neg cN]
        refine ⟨W, vOK_no (show (1 : Nat) < 2 by decide), ?_⟩
        rw [aM4 (M := M) (Y := gI (gI (gI Y 5 (nI e)) 7 5) 8 W) (K := 1) (p := s) (j := e) (W := W) yr rfl ((gI_n (by decide)).trans ((gI_n (by decide)).trans ((gI_n (by decide)).trans y6))) rfl gI_s (fun k a b c e => by rw [gI_n e, gI_n c, gI_n a, yk k a b c e])]
      · rw [if_neg c6, if_neg c6]
        by_cases cN : wnF by_ s (e - s) 21 0 < 21
        · rw [if_pos cN, if_pos cN]
          obtain ⟨w1, w2, w3⟩ := cw_rw _ cN
          have w4 := r2 cN
          generalize wnF by_ s (e - s) 21 0 = n at *
          refine ⟨W, ⟨fun z => absurd z (by show ¬ 4 + cw n = 2; omega), fun z => absurd z (by show ¬ 4 + cw n = 3; omega), fun _ _ => ?_, fun z => absurd z (by show ¬ 25 ≤ 4 + cw n; omega)⟩, ?_⟩
          · show W = nI (rwK (4 + cw n))
            rw [w1]
            exact w4
          · rw [aM4 (M := M) (Y := gI (gI (gI Y 5 (nI e)) 7 0) 8 W) (K := 4 + cw n) (p := s) (j := e) (W := W) yr rfl ((gI_n (by decide)).trans ((gI_n (by decide)).trans ((gI_n (by decide)).trans y6))) (by rw [w2]; rfl) gI_s (fun k a b c e => by rw [gI_n e, gI_n c, gI_n a, yk k a b c e])]
        · rw [if_neg cN, if_neg cN]
          have w4 := r3 cN (by omega)
          refine ⟨W, vOK_2 w4, ?_⟩
          rw [aM4 (M := M) (Y := gI (gI (gI Y 5 (nI e)) 7 1) 8 W) (K := 2) (p := s) (j := e) (W := W) yr rfl ((gI_n (by decide)).trans ((gI_n (by decide)).trans ((gI_n (by decide)).trans y6))) rfl gI_s (fun k a b c e => by rw [gI_n e, gI_n c, gI_n a, yk k a b c e])]
    · rw [if_neg (show ¬ (97 ≤ by_ s ∧ by_ s ≤ 122) from fun z => cl (decide_eq_true ⟨by omega, z.1, z.2⟩))] at sm
      rw [cI_of sm, if_pos rfl, if_neg cl]
      by_cases cd : dgB by_ T s = true
      · obtain ⟨l1, l2, l3⟩ := of_decide_eq_true cd
        rw [if_pos ⟨l2, l3⟩] at dg
        rw [cI_of dg, if_neg (show ¬ (1 : Int32) = 0 by decide), if_pos cd]
        simp only [↓pM_pfb]
        have := p_number xs (d + 1) (h := h) (a := a) (M := gI Y 7 2) (N := N) (by_ := by_) (T := T) yb y4 s hs (T - s) 0 (F + 2 + 2000) (by omega) (fun l hl => absurd hl (by omega)) (by omega)
        have em : muM (gI Y 7 2) (nrF by_ s 0) (s + 0) = gI (gI Y 7 2) 8 0 := by
          refine Prod.ext (funext fun k => ?_) rfl
          show (if k = 5 then nI s else if k = 8 then nI 0 else (gI Y 7 2).1 k) = if k = 8 then 0 else (gI Y 7 2).1 k
          by_cases c5 : k = 5
          · rw [if_pos c5, if_neg (by omega), c5]; exact y5.symm
          · rw [if_neg c5]; rfl
        rw [em] at this
        rw [this, Nat.add_zero, show whN (dgB by_ T) (T - s) s = deN by_ T s from rfl]
        have b4 : ∀ j, s ≤ j → j < deN by_ T s → dgB by_ T j = true := wh_all (P := dgB by_ T) (T - s) s
        have b3 : s < deN by_ T s := wh_on cd (show 0 < T - s by omega)
        generalize deN by_ T s = e at *
        obtain ⟨n1, n2, n3⟩ := nc_nr (by_ := by_) (T := T) (i := s) (e - s) (fun j hj => b4 (s + j) (by omega) (by omega))
        refine ⟨nI (nrF by_ s (e - s)), ⟨fun z => absurd z (by decide), fun _ => ⟨_, n2, rfl, n3⟩, fun z => absurd z (by decide), fun z => absurd z (by decide)⟩, ?_⟩
        rw [aM4 (M := M) (Y := muM (gI Y 7 2) (nrF by_ s (e - s)) e) (K := 3) (p := s) (j := e) (W := nI (nrF by_ s (e - s))) yr gI_s y6 rfl rfl (fun k a b c e => by rw [muM, gI_n a, gI_n e, gI_n c, yk k a b c e])]
      · rw [if_neg (show ¬ (48 ≤ by_ s ∧ by_ s ≤ 57) from fun z => cd (decide_eq_true ⟨by omega, z.1, z.2⟩))] at dg
        rw [cI_of dg, if_pos rfl, if_neg cd]
        simp only [↓pM_clsb]
        rw [cV_of (p_sign xs (d + 1) (h := h) (a := a) yb y4 s y5 (by omega))]
        have k := sg_sv (by_ s) (if s + 1 < T then by_ (s + 1) else 0) b1
        rw [show sgF (by_ s) (if s + 1 < T then by_ (s + 1) else 0) = sgN by_ T s from rfl] at k
        generalize sgN by_ T s = kk at *
        obtain ⟨k1, k2, k3, -⟩ := k
        refine ⟨nI (svN kk.1 (by_ s)), ⟨fun z => ?_, fun z => ?_, fun z z2 => ?_, fun z => ?_⟩, ?_⟩
        · have := k3 (by have : kk.1 = 2 := z; omega)
          have : kk.1 = 2 := z
          omega
        · have := k3 (by have : kk.1 = 3 := z; omega)
          have : kk.1 = 3 := z
          omega
        · have t1 : 4 ≤ kk.1 := z
          have t2 : kk.1 < 25 := z2
          have := k3 (by omega)
          omega
        · have t1 : 25 ≤ kk.1 := z
          show nI _ = nI _
          rw [(k3 (by omega)).2]
        · rw [aM4 (M := M) (Y := sgM Y (if kk.1 = 1 then 5 else 3) (svN kk.1 (by_ s)) (s + kk.2)) (K := kk.1) (p := s) (j := s + kk.2) (W := nI (svN kk.1 (by_ s))) yr rfl y6 (by rw [k1]; rfl) gI_s (fun k a b c e => by rw [sgM, gI_n e, gI_n c, gI_n a, yk k a b c e])]
end DX4
