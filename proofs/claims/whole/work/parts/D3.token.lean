/-! text: a token, of the class. -/
def deN (by_ : Nat → Nat) (T i : Nat) : Nat := whN (dgB by_ T) (T - i) i
/-- kind, value, end of the token that begins at s -/
def tkS (by_ : Nat → Nat) (T s : Nat) : Nat × Nat × Nat :=
  if T ≤ s then (0, 0, s)
  else if lwB by_ T s = true then (if 6 < weN by_ T s - s then (1, 0, weN by_ T s) else (if wnF by_ s (weN by_ T s - s) 21 0 < 21 then 4 + cw (wnF by_ s (weN by_ T s - s) 21 0) else 2, pkN by_ s (weN by_ T s - s), weN by_ T s))
  else if dgB by_ T s = true then (3, ncF by_ s (deN by_ T s - s), deN by_ T s)
  else ((sgN by_ T s).1, 0, s + (sgN by_ T s).2)
/-- where the token ahead of i begins -/
def tkP (by_ : Nat → Nat) (T i : Nat) : Nat := whN (spB by_ T) (T - i) i
def tkK (by_ : Nat → Nat) (T i : Nat) : Nat := (tkS by_ T (tkP by_ T i)).1
def tkV (by_ : Nat → Nat) (T i : Nat) : Nat := (tkS by_ T (tkP by_ T i)).2.1
def tkJ (by_ : Nat → Nat) (T i : Nat) : Nat := (tkS by_ T (tkP by_ T i)).2.2
def tkZ (Z : aG) (K V p j : Nat) : aG := gI (gI (gI (gI Z 0 (nI K)) 1 (nI p)) 2 (nI V)) 4 (nI j)
theorem aG4 {Z W : aG} {K V p j : Nat} (h2 : W.2 = Z.2) (h0 : W.1 0 = nI K) (h1 : W.1 1 = nI p) (hv : W.1 2 = nI V) (h4 : W.1 4 = nI j) (hk : ∀ k, k ≠ 0 → k ≠ 1 → k ≠ 2 → k ≠ 4 → W.1 k = Z.1 k) : W = tkZ Z K V p j := by
  refine Prod.ext (funext fun k => ?_) h2
  show W.1 k = if k = 4 then nI j else if k = 2 then nI V else if k = 1 then nI p else if k = 0 then nI K else Z.1 k
  by_cases c4 : k = 4
  · rw [if_pos c4, c4, h4]
  · rw [if_neg c4]
    by_cases c2 : k = 2
    · rw [if_pos c2, c2, hv]
    · rw [if_neg c2]
      by_cases c1 : k = 1
      · rw [if_pos c1, c1, h1]
      · rw [if_neg c1]
        by_cases c0 : k = 0
        · rw [if_pos c0, c0, h0]
        · rw [if_neg c0]
          exact hk k c0 c1 c2 c4
section DX3
variable (xs : List Int32) (d : Nat) {H : ia_H} {x : Nat} {C : aC} {M : aG} {by_ : Nat → Nat} {T : Nat}
theorem t_takeNumber (hb : txB (C.1 0) M by_ T) {Z : aG} (hL : Z.1 3 = nI T) (hr : Z.2.2.2.2 0 = x + 1) (i : Nat) (hi : i ≤ T) (h2 : Z.1 2 = 0) (h4 : Z.1 4 = nI i) : ia_cal xs (d + 3) im_Tokens_takeNumber [.ref (x + 79)] (tot H x (uG C 6 Z)) = some (none, tot H x (uG C 6 (nuT (gI Z 0 3) (ncF by_ i (deN by_ T i - i)) (deN by_ T i)))) := by
  have hT7 := hb.1
  rw [iu_Tokens_takeNumber, show (1000000 : Nat) = 999999 + 1 from rfl, iq_Tokens_takeNumber_0]
  simp only [↓tT_pfb, uG_s, uG_G]
  have := t_number xs d (H := H) (x := x) (C := C) hb (Z := gI Z 0 3) hL hr i hi (T - i) 0 999999 (by omega) (fun l hl => absurd hl (by omega)) (by omega)
  have e0 : nuT (gI Z 0 3) (ncF by_ i 0) (i + 0) = gI Z 0 3 := by
    refine Prod.ext (funext fun k => ?_) rfl
    show (if k = 4 then nI (i + 0) else if k = 2 then nI 0 else (gI Z 0 3).1 k) = (gI Z 0 3).1 k
    by_cases c4 : k = 4
    · rw [if_pos c4, c4]; exact h4.symm
    · rw [if_neg c4]
      by_cases c2 : k = 2
      · rw [if_pos c2, c2]; exact h2.symm
      · rw [if_neg c2]
  rw [e0] at this
  exact this
theorem t_next (hb : txB (C.1 0) M by_ T) {Z : aG} (hL : Z.1 3 = nI T) (hr : Z.2.2.2.2 0 = x + 1) (hw : Z.2.1 1 = wordL) (i : Nat) (hi : i ≤ T) (h4 : Z.1 4 = nI i) : ia_cal xs (d + 7) im_Tokens_next [.ref (x + 79)] (tot H x (uG C 6 Z)) = some (none, tot H x (uG C 6 (tkZ Z (tkK by_ T i) (tkV by_ T i) (tkP by_ T i) (tkJ by_ T i)))) := by
  have hT7 := hb.1
  have e0 : Z = gI Z 4 (nI i) := by rw [← h4, gI_id]
  rw [iu_Tokens_next]
  obtain ⟨F, hF, g⟩ := t_skip xs (d + 4) (H := H) (x := x) (C := C) hb hL hr (T - i) i 1000000 (by omega) (by omega)
  rw [← e0] at g
  refine g.trans ?_
  unfold tkK tkV tkJ
  rw [show whN (spB by_ T) (T - i) i = tkP by_ T i from rfl]
  have hs : tkP by_ T i ≤ T := by
    have := (wh_le (P := spB by_ T) (T - i) i).2
    show whN (spB by_ T) (T - i) i ≤ T
    omega
  generalize tkP by_ T i = s at *
  obtain ⟨F, rfl⟩ : ∃ k, F = k + 1 + 1 + 1 := ⟨F - 3, by omega⟩
  have q4 : (gI Z 4 (nI s)).1 4 = nI s := gI_s
  have q4' : (gI (gI (gI Z 4 (nI s)) 1 (nI s)) 2 0).1 4 = nI s := rfl
  have q3' : (gI (gI (gI Z 4 (nI s)) 1 (nI s)) 2 0).1 3 = nI T := hL
  rw [iq_Tokens_next_24]
  simp only [↓tT_Ib, ↓tT_pfb, uG_s, uG_G, q4, q4', q3']
  generalize hY : gI (gI (gI Z 4 (nI s)) 1 (nI s)) 2 0 = Y
  have y4 : Y.1 4 = nI s := by rw [← hY]; rfl
  have y3 : Y.1 3 = nI T := by rw [← hY]; exact hL
  have y2 : Y.1 2 = nI 0 := by rw [← hY]; rfl
  have y1 : Y.1 1 = nI s := by rw [← hY]; rfl
  have yr : Y.2 = Z.2 := by rw [← hY]; rfl
  have yk : ∀ k, k ≠ 0 → k ≠ 1 → k ≠ 2 → k ≠ 4 → Y.1 k = Z.1 k := fun k a b c e => by rw [← hY, gI_n c, gI_n b, gI_n e]
  unfold tkS
  by_cases c : T ≤ s
  · rw [if_neg (nI_nlt c (by omega)), if_pos c]
    show some (none, tot H x (uG C 6 (gI Y 0 0))) = some (none, tot H x (uG C 6 (tkZ Z 0 0 s s)))
    rw [aG4 (Z := Z) (W := gI Y 0 0) (K := 0) (V := 0) (p := s) (j := s) yr gI_s ((gI_n (by decide)).trans y1) ((gI_n (by decide)).trans y2) ((gI_n (by decide)).trans y4) (fun k a b c e => by rw [gI_n a, yk k a b c e])]
  · have sgn := t_signAt xs (d + 5) (H := H) (x := x) (C := uG C 6 Y) (M := M) (by_ := by_) (T := T) (by rw [uG_n (by decide)]; exact hb) (by rw [uG_s]; exact y3) (by rw [uG_s, yr]; exact hr) s (by omega)
    obtain ⟨b1, -⟩ := hb.2.2.2 s (by omega)
    rw [if_pos (show s < T by omega)] at sgn
    rw [if_pos (nI_lt (show s < T by omega) (by omega)), if_neg c]
    simp only [↓tT_clsb, ↓cI_of sgn]
    have s63 : ¬ lwB by_ T s = true → ¬ dgB by_ T s = true → ia_qr xs (ia_cal xs (d + 6)) im_Tokens_next (F + 1) 63 [.ref (x + 79), .int (nI (by_ s))] [] (tot H x (uG C 6 Y)) = some (none, tot H x (uG C 6 (tkZ Z (sgN by_ T s).1 0 s (s + (sgN by_ T s).2)))) := fun n1 n2 => by
      rw [iq_Tokens_next_63, ← (ix_sg _ b1).2]
      simp only [↓tT_clsb]
      rw [cV_of (t_takeSign xs d (H := H) (x := x) (C := C) hb y3 (by rw [yr]; exact hr) s y4 (by omega))]
      rw [aG4 (Z := Z) (W := gI (gI Y 4 (nI (s + (sgN by_ T s).2))) 0 (nI (sgN by_ T s).1)) (K := (sgN by_ T s).1) (V := 0) (p := s) (j := s + (sgN by_ T s).2) yr gI_s ((gI_n (by decide)).trans ((gI_n (by decide)).trans y1)) ((gI_n (by decide)).trans ((gI_n (by decide)).trans y2)) ((gI_n (by decide)).trans gI_s) (fun k a b c e => by rw [gI_n a, gI_n e, yk k a b c e])]
    have s54 : ¬ lwB by_ T s = true → ia_qr xs (ia_cal xs (d + 6)) im_Tokens_next (F + 1 + 1) 54 [.ref (x + 79), .int (nI (by_ s))] [] (tot H x (uG C 6 Y)) = some (none, tot H x (uG C 6 (if dgB by_ T s = true then tkZ Z 3 (ncF by_ s (deN by_ T s - s)) s (deN by_ T s) else tkZ Z (sgN by_ T s).1 0 s (s + (sgN by_ T s).2)))) := fun n1 => by
      rw [iq_Tokens_next_54]
      by_cases c1 : by_ s < 48
      · have nd : ¬ dgB by_ T s = true := fun z => by have := of_decide_eq_true z; omega
        rw [if_pos (show nI (by_ s) < (48 : Int32) from nI_lt (b := 48) c1 (by decide)), if_neg nd]
        exact s63 n1 nd
      · rw [if_neg (show ¬ nI (by_ s) < (48 : Int32) from nI_nlt (b := 48) (by omega) (by omega))]
        by_cases c2 : 57 < by_ s
        · have nd : ¬ dgB by_ T s = true := fun z => by have := of_decide_eq_true z; omega
          rw [if_pos (show (57 : Int32) < nI (by_ s) from nI_lt (a := 57) c2 (by omega)), if_neg nd]
          exact s63 n1 nd
        · have yd : dgB by_ T s = true := decide_eq_true ⟨by omega, by omega, by omega⟩
          rw [if_neg (show ¬ (57 : Int32) < nI (by_ s) from nI_nlt (a := 57) (by omega) (by decide)), if_pos yd]
          simp only [↓tT_clsb]
          rw [cV_of (t_takeNumber xs (d + 3) (H := H) (x := x) (C := C) hb y3 (by rw [yr]; exact hr) s hs y2 y4)]
          rw [aG4 (Z := Z) (W := nuT (gI Y 0 3) (ncF by_ s (deN by_ T s - s)) (deN by_ T s)) (K := 3) (V := ncF by_ s (deN by_ T s - s)) (p := s) (j := deN by_ T s) yr rfl y1 rfl gI_s (fun k a b c e => by rw [nuT, gI_n e, gI_n c, gI_n a, yk k a b c e])]
    have fin : ∀ B : Bool, some ((none : Option Value), tot H x (uG C 6 (if B = true then tkZ Z 3 (ncF by_ s (deN by_ T s - s)) s (deN by_ T s) else tkZ Z (sgN by_ T s).1 0 s (s + (sgN by_ T s).2)))) = some (none, tot H x (uG C 6 (tkZ Z (if B = true then (3, ncF by_ s (deN by_ T s - s), deN by_ T s) else ((sgN by_ T s).1, 0, s + (sgN by_ T s).2)).1 (if B = true then (3, ncF by_ s (deN by_ T s - s), deN by_ T s) else ((sgN by_ T s).1, 0, s + (sgN by_ T s).2)).2.1 s (if B = true then (3, ncF by_ s (deN by_ T s - s), deN by_ T s) else ((sgN by_ T s).1, 0, s + (sgN by_ T s).2)).2.2))) := fun B => by cases B <;> rfl
    by_cases c1 : by_ s < 97
    · have nd : ¬ lwB by_ T s = true := fun z => by have := of_decide_eq_true z; omega
      rw [if_pos (show nI (by_ s) < (97 : Int32) from nI_lt (b := 97) c1 (by decide)), if_neg nd]
      exact (s54 nd).trans (fin _)
    · rw [if_neg (show ¬ nI (by_ s) < (97 : Int32) from nI_nlt (b := 97) (by omega) (by omega))]
      by_cases c2 : 122 < by_ s
      · have nd : ¬ lwB by_ T s = true := fun z => by have := of_decide_eq_true z; omega
        rw [if_pos (show (122 : Int32) < nI (by_ s) from nI_lt (a := 122) c2 (by omega)), if_neg nd]
        exact (s54 nd).trans (fin _)
      · have yd : lwB by_ T s = true := decide_eq_true ⟨by omega, by omega, by omega⟩
        rw [if_neg (show ¬ (122 : Int32) < nI (by_ s) from nI_nlt (a := 122) (by omega) (by decide)), if_pos yd, cV_of (t_takeWord xs (d + 3) (H := H) (x := x) (C := C) hb y3 (by rw [yr]; exact hr) (by rw [yr]; exact hw) s y1 y4 yd)]
        unfold wdT
        by_cases c6 : 6 < weN by_ T s - s
        · rw [if_pos c6, if_pos c6]
          rw [aG4 (Z := Z) (W := gI (gI Y 4 (nI (weN by_ T s))) 0 1) (K := 1) (V := 0) (p := s) (j := weN by_ T s) yr gI_s ((gI_n (by decide)).trans ((gI_n (by decide)).trans y1)) ((gI_n (by decide)).trans ((gI_n (by decide)).trans y2)) ((gI_n (by decide)).trans gI_s) (fun k a b c e => by rw [gI_n a, gI_n e, yk k a b c e])]
        · rw [if_neg c6, if_neg c6]
          have ek : (if wnF by_ s (weN by_ T s - s) 21 0 < 21 then nI (4 + cw (wnF by_ s (weN by_ T s - s) 21 0)) else 2) = nI (if wnF by_ s (weN by_ T s - s) 21 0 < 21 then 4 + cw (wnF by_ s (weN by_ T s - s) 21 0) else 2) := by split <;> rfl
          rw [ek]
          rw [aG4 (Z := Z) (W := gI (gI (gI Y 4 (nI (weN by_ T s))) 2 (nI (pkN by_ s (weN by_ T s - s)))) 0 (nI (if wnF by_ s (weN by_ T s - s) 21 0 < 21 then 4 + cw (wnF by_ s (weN by_ T s - s) 21 0) else 2))) (K := if wnF by_ s (weN by_ T s - s) 21 0 < 21 then 4 + cw (wnF by_ s (weN by_ T s - s) 21 0) else 2) (V := pkN by_ s (weN by_ T s - s)) (p := s) (j := weN by_ T s) yr gI_s ((gI_n (by decide)).trans ((gI_n (by decide)).trans ((gI_n (by decide)).trans y1))) ((gI_n (by decide)).trans gI_s) ((gI_n (by decide)).trans ((gI_n (by decide)).trans gI_s)) (fun k a b c e => by rw [gI_n a, gI_n c, gI_n e, yk k a b c e])]
end DX3
