/-! text: the reference while it reads a law. -/
theorem tk_lt {by_ : Nat → Nat} {T : Nat} (hb : ∀ i, i < T → by_ i < 256) (i : Nat) : tkK by_ T i < 38 := by
  unfold tkK
  generalize tkP by_ T i = s
  unfold tkS
  split
  · exact (by decide : (0 : Nat) < 38)
  · rename_i c
    split
    · split
      · exact (by decide : (1 : Nat) < 38)
      · show (if wnF by_ s (weN by_ T s - s) 21 0 < 21 then 4 + cw (wnF by_ s (weN by_ T s - s) 21 0) else 2) < 38
        split
        · rename_i cN
          have := (cw_rw _ cN).2.2
          omega
        · decide
    · split
      · exact (by decide : (3 : Nat) < 38)
      · exact (sg_sv (by_ s) _ (hb s (by omega))).2.1
/-- a token that is there takes the reader on -/
theorem tk_on {by_ : Nat → Nat} {T : Nat} (hb : ∀ i, i < T → by_ i < 256) (i : Nat) (hi : i ≤ T) : tkP by_ T i ≤ T ∧ i ≤ tkP by_ T i ∧ tkJ by_ T i ≤ T ∧ (tkK by_ T i ≠ 0 → i < tkJ by_ T i) ∧ i ≤ tkJ by_ T i := by
  have h1 := wh_le (P := spB by_ T) (T - i) i
  have h1' : i ≤ tkP by_ T i ∧ tkP by_ T i ≤ i + (T - i) := h1
  unfold tkK tkJ
  generalize tkP by_ T i = s at *
  suffices hs : (tkS by_ T s).2.2 ≤ T ∧ ((tkS by_ T s).1 ≠ 0 → s < (tkS by_ T s).2.2) ∧ s ≤ (tkS by_ T s).2.2 by
    obtain ⟨a1, a2, a3⟩ := hs
    exact ⟨by omega, h1'.1, a1, fun z => by have := a2 z; omega, by omega⟩
  unfold tkS
  by_cases c : T ≤ s
  · rw [if_pos c]
    exact ⟨by show s ≤ T; omega, fun z => absurd rfl z, Nat.le_refl _⟩
  · rw [if_neg c]
    by_cases cl : lwB by_ T s = true
    · have b2 : weN by_ T s ≤ s + (T - s) := (wh_le (P := lwB by_ T) (T - s) s).2
      have b3 : s < weN by_ T s := wh_on cl (show 0 < T - s by omega)
      rw [if_pos cl]
      split
      · exact ⟨by show weN by_ T s ≤ T; omega, fun _ => b3, Nat.le_of_lt b3⟩
      · exact ⟨by show weN by_ T s ≤ T; omega, fun _ => b3, Nat.le_of_lt b3⟩
    · rw [if_neg cl]
      by_cases cd : dgB by_ T s = true
      · have b2 : deN by_ T s ≤ s + (T - s) := (wh_le (P := dgB by_ T) (T - s) s).2
        have b3 : s < deN by_ T s := wh_on cd (show 0 < T - s by omega)
        rw [if_pos cd]
        exact ⟨by show deN by_ T s ≤ T; omega, fun _ => b3, Nat.le_of_lt b3⟩
      · rw [if_neg cd]
        have k := (sg_sv (by_ s) (if s + 1 < T then by_ (s + 1) else 0) (hb s (by omega))).2.2.2
        rw [show sgF (by_ s) (if s + 1 < T then by_ (s + 1) else 0) = sgN by_ T s from rfl] at k
        have : s + (sgN by_ T s).2 ≤ T := by
          by_cases c2 : s + 1 < T
          · omega
          · rw [if_neg c2] at k
            have := k.2.2
            omega
        exact ⟨this, fun _ => by show s < s + (sgN by_ T s).2; omega, by show s ≤ s + (sgN by_ T s).2; omega⟩
theorem kw_w : ∀ K, K < 25 → 4 ≤ K → rwK K < 21 ∧ (rwK K = 11 ↔ K = 22) ∧ (rwK K = 12 ↔ K = 23) ∧ (rwK K = 13 ↔ K = 24) ∧ (rwK K < 14 ↔ ¬ (15 ≤ K ∧ K ≤ 21)) ∧ (15 ≤ K ∧ K ≤ 21 → rwK K = K - 1) := by decide +kernel
theorem kw_s : ∀ K, K < 38 → 25 ≤ K → svK K < 300 ∧ (svK K = 59 ↔ K = 25) ∧ (svK K = 40 ↔ K = 26) ∧ (svK K = 41 ↔ K = 27) ∧ (svK K = 43 ↔ K = 28) ∧ (svK K = 45 ↔ K = 29) ∧ (svK K = 42 ↔ K = 30) ∧ (svK K = 47 ↔ K = 31) := by decide +kernel
theorem sr_K : ∀ K, K < 38 → (srK K = 0 ↔ (4 ≤ K ∧ K < 25)) ∧ (srK K = 3 ↔ 25 ≤ K) ∧ (srK K = 2 ↔ K = 3) ∧ (srK K = 1 ↔ K = 2) ∧ (srK K = 4 ↔ K = 0) ∧ srK K < 6 := by decide +kernel
/-- sort and value of what is written, for the reference -/
def ksF (e : Nat × Nat) : Int32 := if e.1 = 3 then 0 else if 15 ≤ e.1 ∧ e.1 ≤ 21 then 1 else 2
def kvF (e : Nat × Nat) : Int32 := if e.1 = 3 then nI e.2 else if 15 ≤ e.1 ∧ e.1 ≤ 21 then nI (e.1 - 15) else if e.1 = 22 then 262 else if e.1 = 23 then 261 else if e.1 = 24 then 260 else nI (svK e.1)
def ptL (f : Nat × Nat → Int32) : Nat → List (Nat × Nat) → List Int32 → List Int32
  | _, [], l => l
  | w, e :: out, l => ptL f (w + 1) out (l.set (64 + w) (f e))
theorem pt_a {f : Nat × Nat → Int32} {e : Nat × Nat} : ∀ out w l, ptL f w (out ++ [e]) l = (ptL f w out l).set (64 + (w + out.length)) (f e)
  | [], w, l => rfl
  | e' :: out, w, l => by
    show ptL f (w + 1) (out ++ [e]) (l.set (64 + w) (f e')) = _
    rw [pt_a out (w + 1)]
    show _ = (ptL f (w + 1) out (l.set (64 + w) (f e'))).set (64 + (w + (out.length + 1))) (f e)
    rw [show w + 1 + out.length = w + (out.length + 1) by omega]
theorem pt_l {f : Nat × Nat → Int32} : ∀ out w l, (ptL f w out l).length = l.length
  | [], w, l => rfl
  | e' :: out, w, l => by
    show (ptL f (w + 1) out (l.set (64 + w) (f e'))).length = _
    rw [pt_l out (w + 1), List.length_set]
def rInt (M : aG) (K P J : Nat) (W : Int32) (op kn : Nat) : Nat → Int32 := fun k => if k = 14 then nI kn else if k = 13 then nI op else (tkM M K P J W).1 k
def rRow (M : aG) (w0 : Nat) (out : List (Nat × Nat)) : Nat → List Int32 := fun k => if k = 17 then ptL kvF w0 out (M.2.1 17) else if k = 16 then ptL ksF w0 out (M.2.1 16) else if k = 1 then (M.2.1 1).set 15 (nI (w0 + out.length)) else M.2.1 k
/-- the reference at a token, so many open and counted, so much written -/
def rSt (M : aG) (by_ : Nat → Nat) (T w0 i : Nat) (W : Int32) (op kn : Nat) (out : List (Nat × Nat)) : aG := (rInt M (tkK by_ T i) (tkP by_ T i) (tkJ by_ T i) W op kn, rRow M w0 out, M.2.2)
def flM (M : aG) (k p : Nat) : aG := gI (gI M 9 (nI k)) 10 (nI p)
section DX7
variable (xs : List Int32) (d : Nat) {h : ia_H} {a : Nat} {M N : aG} {by_ : Nat → Nat} {T : Nat}
theorem p_wrong {k p : Nat} (h9 : M.1 9 = 0) (h6 : M.1 6 = nI p) {v : Int32} (hv : v = nI k) : ia_cal xs (d + 1) im_Mod_wrong [.ref a, .int v] (pM h a M) = some (none, pM h a (flM M k p)) := by
  have q6 : (gI M 9 (nI k)).1 6 = nI p := h6
  rw [iu_Mod_wrong, iq_Mod_wrong_0, hv]
  simp only [↓pM_Ib, h9, ↓pM_pfb, q6]
  rw [if_pos trivial]
  rfl
theorem p_isWord (h9 : M.1 9 = 0) (v : Int32) : ia_cal xs (d + 1) im_Mod_isWord [.ref a, .int v] (pM h a M) = some (some (.int (if M.1 7 = 0 ∧ M.1 8 = v then 1 else 0)), pM h a M) := by
  rw [iu_Mod_isWord, iq_Mod_isWord_0]
  simp only [↓pM_Ib, h9, ↓ok0, ↓ok1]
  rw [if_pos trivial]
  by_cases c : M.1 7 = 0
  · rw [if_pos c]
    by_cases c2 : M.1 8 = v
    · rw [if_pos c2, if_pos ⟨c, c2⟩]
    · rw [if_neg c2, if_neg (fun z => c2 z.2)]
  · rw [if_neg c, if_neg (fun z => c z.1)]
theorem p_isSign (h9 : M.1 9 = 0) (v : Int32) : ia_cal xs (d + 1) im_Mod_isSign [.ref a, .int v] (pM h a M) = some (some (.int (if M.1 7 = 3 ∧ M.1 8 = v then 1 else 0)), pM h a M) := by
  rw [iu_Mod_isSign, iq_Mod_isSign_0]
  simp only [↓pM_Ib, h9, ↓ok0, ↓ok1]
  rw [if_pos trivial]
  by_cases c : M.1 7 = 3
  · rw [if_pos c]
    by_cases c2 : M.1 8 = v
    · rw [if_pos c2, if_pos ⟨c, c2⟩]
    · rw [if_neg c2, if_neg (fun z => c2 z.2)]
  · rw [if_neg c, if_neg (fun z => c z.1)]
/-- after a fault nothing goes on -/
theorem f_wrong (h9 : M.1 9 ≠ 0) (v : Int32) : ia_cal xs (d + 1) im_Mod_wrong [.ref a, .int v] (pM h a M) = some (none, pM h a M) := by
  rw [iu_Mod_wrong, iq_Mod_wrong_0]
  simp only [↓pM_Ib]
  rw [if_neg h9]
theorem f_isWord (h9 : M.1 9 ≠ 0) (v : Int32) : ia_cal xs (d + 1) im_Mod_isWord [.ref a, .int v] (pM h a M) = some (some (.int 0), pM h a M) := by
  rw [iu_Mod_isWord, iq_Mod_isWord_0]
  simp only [↓pM_Ib, ↓ok0, ↓ok1]
  rw [if_neg h9]
theorem f_isSign (h9 : M.1 9 ≠ 0) (v : Int32) : ia_cal xs (d + 1) im_Mod_isSign [.ref a, .int v] (pM h a M) = some (some (.int 0), pM h a M) := by
  rw [iu_Mod_isSign, iq_Mod_isSign_0]
  simp only [↓pM_Ib, ↓ok0, ↓ok1]
  rw [if_neg h9]
theorem f_goOn (h9 : M.1 9 ≠ 0) : ia_cal xs (d + 1) im_Mod_goOn [.ref a] (pM h a M) = some (none, pM h a M) := by
  rw [iu_Mod_goOn, iq_Mod_goOn_0]
  simp only [↓pM_Ib]
  rw [if_neg h9]
theorem f_knot (h9 : M.1 9 ≠ 0) : ia_cal xs (d + 1) im_Mod_knot [.ref a] (pM h a M) = some (none, pM h a M) := by
  rw [iu_Mod_knot, iq_Mod_knot_0]
  simp only [↓pM_Ib]
  rw [if_neg h9]
theorem f_puts (h9 : M.1 9 ≠ 0) (v w : Int32) : ia_cal xs (d + 1) im_Mod_puts [.ref a, .int v, .int w] (pM h a M) = some (none, pM h a M) := by
  rw [iu_Mod_puts, iq_Mod_puts_0]
  simp only [↓pM_Ib]
  rw [if_neg h9]
theorem f_primary (h9 : M.1 9 ≠ 0) : ia_cal xs (d + 1) im_Mod_primary [.ref a] (pM h a M) = some (none, pM h a M) := by
  rw [iu_Mod_primary, iq_Mod_primary_0]
  simp only [↓pM_Ib]
  rw [if_neg h9]
theorem f_product (h9 : M.1 9 ≠ 0) : ia_cal xs (d + 2) im_Mod_product [.ref a] (pM h a M) = some (none, pM h a M) := by
  rw [iu_Mod_product, iq_Mod_product_0]
  simp only [↓pM_clsb, ↓cV_of (f_primary xs d h9), iq_Mod_product_2, ↓cI_of (f_isSign xs d h9 _)]
  rw [if_pos trivial, if_pos trivial]
theorem f_sum (h9 : M.1 9 ≠ 0) : ia_cal xs (d + 3) im_Mod_sum [.ref a] (pM h a M) = some (none, pM h a M) := by
  rw [iu_Mod_sum, iq_Mod_sum_0]
  simp only [↓pM_clsb, ↓cV_of (f_product xs d h9), iq_Mod_sum_2, ↓cI_of (f_isSign xs (d + 1) h9 _)]
  rw [if_pos trivial, if_pos trivial]
theorem f_negation (h9 : M.1 9 ≠ 0) : ia_cal xs (d + 4) im_Mod_negation [.ref a] (pM h a M) = some (none, pM h a M) := by
  rw [iu_Mod_negation, iq_Mod_negation_0]
  simp only [↓pM_clsb, ↓cI_of (f_isWord xs (d + 2) h9 _), ↓cV_of (f_sum xs d h9), ↓pM_Ib]
  rw [if_pos trivial, if_neg h9]
theorem f_conjunction (h9 : M.1 9 ≠ 0) : ia_cal xs (d + 5) im_Mod_conjunction [.ref a] (pM h a M) = some (none, pM h a M) := by
  rw [iu_Mod_conjunction, iq_Mod_conjunction_0]
  simp only [↓pM_clsb, ↓cV_of (f_negation xs d h9)]
  rw [iq_Mod_conjunction_2]
  simp only [↓pM_clsb, ↓cI_of (f_isWord xs (d + 3) h9 _)]
  rw [if_pos trivial]
end DX7
