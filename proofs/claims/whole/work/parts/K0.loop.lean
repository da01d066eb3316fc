/-! The law's loop. -/
def lwR (c s : Nat) (o : Option ia_R) : Prop := ∃ h' : ia_H, o = some (some (.int 1), h') ∧ h'.1 ≤ c ∧ h'.2.1 ≤ s
section KX0
variable (xs : List Int32) (d : Nat) {B : ia_H} {x a b : Nat} {C : aC} {M : aG}
theorem lw_rd (hL : xs.length ≤ 3072) {i k : Nat} (hk : k < 6) {kI : Int32} (ek : kI = nI k) (hi : i + 6 ≤ xs.length) : (if (nI i + kI : Int32) < 0 then none else xs[Int32.toNatClampNeg (nI i + kI)]?) = some (xs.getD (i + k) 0) := by
  subst ek
  rw [nI_add, if_neg (nI_pos (by omega)), nI_clamp (by omega), List.getElem?_eq_getElem (by omega), List.getD_eq_getElem?_getD, List.getElem?_eq_getElem (by omega)]
  rfl
theorem lw_rd0 (hL : xs.length ≤ 3072) {i : Nat} (hi : i + 6 ≤ xs.length) : (if (nI i : Int32) < 0 then none else xs[Int32.toNatClampNeg (nI i)]?) = some (xs.getD i 0) := by
  rw [if_neg (nI_pos (by omega)), nI_clamp (by omega), List.getElem?_eq_getElem (by omega), List.getD_eq_getElem?_getD, List.getElem?_eq_getElem (by omega)]
  rfl
theorem lw_end {i : Nat} (hL : xs.length ≤ 3072) (hi : i ≤ xs.length) (h : xs.length < i + 6) : (Int32.ofNat xs.length - 6 : Int32) < nI i := by
  show nI xs.length - 6 < nI i
  rcases Nat.lt_or_ge xs.length 6 with z | z
  · have key : ∀ n, n < 6 → ∀ i, i < 6 → i ≤ n → nI n - 6 < nI i := by decide
    exact key _ z i (by omega) hi
  · rw [show (6 : Int32) = nI 6 from rfl, pk_sub z]
    exact nI_lt (by omega) (by omega)
theorem lw_on {i : Nat} (hL : xs.length ≤ 3072) (h : i + 6 ≤ xs.length) : ¬ (Int32.ofNat xs.length - 6 : Int32) < nI i := by
  show ¬ nI xs.length - 6 < nI i
  rw [show (6 : Int32) = nI 6 from rfl, pk_sub (by omega)]
  exact nI_nlt (by omega) (by omega)
theorem ls_hear {R : Option ia_R → Prop} {i n : Nat} {y1 y2 y3 : Int32} (hR : Rl x C M) (hx : x + 158 ≤ a) (e1 : (if (nI i + 1 : Int32) < 0 then none else xs[Int32.toNatClampNeg (nI i + 1)]?) = some y1) (e2 : (if (nI i + 2 : Int32) < 0 then none else xs[Int32.toNatClampNeg (nI i + 2)]?) = some y2) (e3 : (if (nI i + 3 : Int32) < 0 then none else xs[Int32.toNatClampNeg (nI i + 3)]?) = some y3) (v : Int32) (hv : v = if y3 = 0 then 0 else 1)
    (hN : ∀ C' M', Rl x C' M' → R (ia_qr xs (ia_cal xs (d + 20)) im_Law_law n 13 [.retAddr 0, .ref x, .ref a, .ref b, .int (nI i + 6), .float 0, .float 0] [] (bothH B x a C' M'))) : R (ia_qr xs (ia_cal xs (d + 20)) im_Law_law (n + 2) 723 [.retAddr 0, .ref x, .ref a, .ref b, .int (nI i), .float 0, .float 0] [.int v, .int y2, .int y1, .ref x] (bothH B x a C M)) := by
  obtain ⟨σ, p, nn, r, t, t0, q, hRp⟩ := hR
  have h01 : v = 0 ∨ v = 1 := by
    rw [hv]
    split
    · exact Or.inl rfl
    · exact Or.inr rfl
  obtain ⟨u, C', M', hR', f1, f2⟩ := both_op xs d (B := B) hx (fun H h => op_hear xs d (H := H) (h := h) (a := a) hRp y1 y2 v h01)
  rw [iq_Law_law_723, if_pos (both_0 hx), cI_of f1, e1, e2, e3]
  show R (if y3 = 0 then _ else _)
  have go : ∀ w : Int32, w = v → R (ia_qr xs (ia_cal xs (d + 20)) im_Law_law (n + 1) 744 [.retAddr 0, .ref x, .ref a, .ref b, .int (nI i), .float 0, .float 0] [.int w, .int y2, .int y1, .ref a, .int u] (bothH B x a C' M)) := fun w hw => by
    subst hw
    rw [iq_Law_law_744, if_pos both_1, cI_of f2, if_pos rfl]
    exact hN C' M' hR'
  by_cases c : y3 = 0
  · rw [if_pos c] at hv ⊢
    exact go 0 hv.symm
  · rw [if_neg c] at hv ⊢
    exact go 1 hv.symm
set_option maxHeartbeats 4000000 in
theorem lw_step {i n c s : Nat} (hL : xs.length ≤ 3072) (hi : i + 6 ≤ xs.length) (hx : x + 158 ≤ a) (hb : a + 42 ≤ b) (hR : Rl x C M) (hB : obB b B) (hN : ∀ m B' C' M', n ≤ m → obB b B' → B'.1 ≤ B.1 + 1 → B'.2.1 ≤ B.2.1 + 6 → Rl x C' M' → lwR c s (ia_qr xs (ia_cal xs (d + 120 + 20)) im_Law_law m 13 [.retAddr 0, .ref x, .ref a, .ref b, .int (nI i + 6), .float 0, .float 0] [] (bothH B' x a C' M'))) : lwR c s (ia_qr xs (ia_cal xs (d + 120 + 20)) im_Law_law (n + 3) 13 [.retAddr 0, .ref x, .ref a, .ref b, .int (nI i), .float 0, .float 0] [] (bothH B x a C M)) := by
  have e1 := lw_rd xs hL (i := i) (k := 1) (by decide) (kI := 1) rfl hi
  have e2 := lw_rd xs hL (i := i) (k := 2) (by decide) (kI := 2) rfl hi
  have e3 := lw_rd xs hL (i := i) (k := 3) (by decide) (kI := 3) rfl hi
  have e4 := lw_rd xs hL (i := i) (k := 4) (by decide) (kI := 4) rfl hi
  have e5 := lw_rd xs hL (i := i) (k := 5) (by decide) (kI := 5) rfl hi
  have hN2 : ∀ C' M', Rl x C' M' → lwR c s (ia_qr xs (ia_cal xs (d + 120 + 20)) im_Law_law (n + 2) 13 [.retAddr 0, .ref x, .ref a, .ref b, .int (nI i + 6), .float 0, .float 0] [] (bothH B x a C' M')) := fun C' M' h => hN (n + 2) B C' M' (by omega) hB (by omega) (by omega) h
  have hR0 := hR
  obtain ⟨σ, p, nn, r, t, t0, q, hRp⟩ := hR0
  rw [iq_Law_law_13, if_neg (lw_on xs hL hi), lw_rd0 xs hL hi]
  generalize xs.getD i 0 = x1
  rw [show ∀ f : Int32 → Option ia_R, (some x1).bind f = f x1 from fun _ => rfl]
  generalize x1 &&& 63 = w
  by_cases c0 : w = 0
  · rw [if_pos c0]
    exact ls_5 xs (d + 120) (R := lwR c s) hx e1 e2 e3 e4 e5 (fun H h => op_feed xs (d + 120) (H := H) (h := h) (a := a) hRp (xs.getD (i + 1) 0) (xs.getD (i + 2) 0) (xs.getD (i + 3) 0) (xs.getD (i + 4) 0) (xs.getD (i + 5) 0)) hN2
  rw [if_neg c0]
  by_cases c1 : w = 1
  · rw [if_pos c1]
    exact ls_1 xs (d + 120) (R := lwR c s) hx e1 (fun H h => op_text xs d (H := H) (h := h) (a := a) hRp (xs.getD (i + 1) 0)) hN2
  rw [if_neg c1]
  by_cases c2 : w = 2
  · rw [if_pos c2]
    exact ls_1 xs (d + 120) (R := lwR c s) hx e1 (fun H h => op_fault xs (d + 120) (H := H) (h := h) (a := a) hRp (xs.getD (i + 1) 0)) hN2
  rw [if_neg c2]
  by_cases c3 : w = 3
  · rw [if_pos c3]
    exact ls_1 xs (d + 120) (R := lwR c s) hx e1 (fun H h => op_named xs (d + 120) (H := H) (h := h) (a := a) hRp (xs.getD (i + 1) 0)) hN2
  rw [if_neg c3]
  by_cases c4 : w = 4
  · rw [if_pos c4]
    exact ls_ring xs (d + 120) hR hx hb hB e1 e2 (fun B' C' M' h1 h2 h3 h4 => hN (n + 2) B' C' M' (by omega) h1 h2 h3 h4)
  rw [if_neg c4]
  by_cases c5 : w = 5
  · rw [if_pos c5]
    exact ls_2 xs (d + 120) (R := lwR c s) hx e1 e2 (fun H h => op_man xs (d + 120) (H := H) (h := h) (a := a) hRp (xs.getD (i + 1) 0) (xs.getD (i + 2) 0)) hN2
  rw [if_neg c5]
  by_cases c6 : w = 6
  · rw [if_pos c6]
    exact ls_2 xs (d + 120) (R := lwR c s) hx e1 e2 (fun H h => op_tone xs (d + 120) (H := H) (h := h) (a := a) hRp (xs.getD (i + 1) 0) (xs.getD (i + 2) 0)) hN2
  rw [if_neg c6]
  by_cases c7 : w = 7
  · rw [if_pos c7]
    exact ls_1 xs (d + 120) (R := lwR c s) hx e1 (fun H h => op_price xs (d + 120) (H := H) (h := h) (a := a) hRp (xs.getD (i + 1) 0)) hN2
  rw [if_neg c7]
  by_cases c8 : w = 8
  · rw [if_pos c8]
    exact ls_2l xs (d + 120) (R := lwR c s) hx e1 e2 (fun H h => op_law xs (d + 120) (H := H) (h := h) (a := a) hRp (xs.getD (i + 1) 0) (xs.getD (i + 2) 0)) hN2
  rw [if_neg c8]
  by_cases c9 : w = 9
  · rw [if_pos c9]
    exact ls_3 xs (d + 120) (R := lwR c s) hx e1 e2 e3 (fun H h => op_buy xs (d + 120) (H := H) (h := h) (a := a) hRp (xs.getD (i + 1) 0) (xs.getD (i + 2) 0) (xs.getD (i + 3) 0)) hN2
  rw [if_neg c9]
  by_cases c10 : w = 10
  · rw [if_pos c10]
    exact ls_2 xs (d + 120) (R := lwR c s) hx e1 e2 (fun H h => op_put xs (d + 120) (H := H) (h := h) (a := a) hRp (xs.getD (i + 1) 0) (xs.getD (i + 2) 0)) hN2
  rw [if_neg c10]
  by_cases c11 : w = 11
  · rw [if_pos c11]
    exact ls_1 xs (d + 120) (R := lwR c s) hx e1 (fun H h => op_hang xs (d + 120) (H := H) (h := h) (a := a) hRp (xs.getD (i + 1) 0)) hN2
  rw [if_neg c11]
  by_cases c12 : w = 12
  · rw [if_pos c12]
    exact ls_2 xs (d + 120) (R := lwR c s) hx e1 e2 (fun H h => op_lend xs (d + 120) (H := H) (h := h) (a := a) hRp (xs.getD (i + 1) 0) (xs.getD (i + 2) 0)) hN2
  rw [if_neg c12]
  by_cases c13 : w = 13
  · rw [if_pos c13]
    exact ls_1 xs (d + 120) (R := lwR c s) hx e1 (fun H h => op_go xs (d + 120) (H := H) (h := h) (a := a) hRp (xs.getD (i + 1) 0)) hN2
  rw [if_neg c13]
  by_cases c14 : w = 14
  · rw [if_pos c14]
    exact ls_3 xs (d + 120) (R := lwR c s) hx e1 e2 e3 (fun H h => op_ahead xs (d + 120) (H := H) (h := h) (a := a) hRp (xs.getD (i + 1) 0) (xs.getD (i + 2) 0) (xs.getD (i + 3) 0)) hN2
  rw [if_neg c14]
  by_cases c15 : w = 15
  · rw [if_pos c15]
    exact ls_1 xs (d + 120) (R := lwR c s) hx e1 (fun H h => op_through xs (d + 120) (H := H) (h := h) (a := a) hRp (xs.getD (i + 1) 0)) hN2
  rw [if_neg c15]
  by_cases c16 : w = 16
  · rw [if_pos c16]
    exact ls_2 xs (d + 120) (R := lwR c s) hx e1 e2 (fun H h => op_when xs (d + 120) (H := H) (h := h) (a := a) hRp (xs.getD (i + 1) 0) (xs.getD (i + 2) 0)) hN2
  rw [if_neg c16]
  by_cases c17 : w = 17
  · rw [if_pos c17]
    exact ls_i xs (d + 120) (R := lwR c s) hx  (fun H h => op_lines xs (d + 120) (H := H) (h := h) (a := a) hRp ) hN2
  rw [if_neg c17]
  by_cases c18 : w = 18
  · rw [if_pos c18]
    exact ls_1 xs (d + 120) (R := lwR c s) hx e1 (fun H h => op_stop xs (d + 120) (H := H) (h := h) (a := a) hRp (xs.getD (i + 1) 0)) hN2
  rw [if_neg c18]
  by_cases c19 : w = 19
  · rw [if_pos c19]
    exact ls_1 xs (d + 120) (R := lwR c s) hx e1 (fun H h => op_shift xs (d + 120) (H := H) (h := h) (a := a) hRp (xs.getD (i + 1) 0)) hN2
  rw [if_neg c19]
  by_cases c20 : w = 20
  · rw [if_pos c20]
    exact ls_2 xs (d + 120) (R := lwR c s) hx e1 e2 (fun H h => op_rests xs (d + 120) (H := H) (h := h) (a := a) hRp (xs.getD (i + 1) 0) (xs.getD (i + 2) 0)) hN2
  rw [if_neg c20]
  by_cases c21 : w = 21
  · rw [if_pos c21]
    exact ls_3 xs (d + 120) (R := lwR c s) hx e1 e2 e3 (fun H h => op_rest xs (d + 120) (H := H) (h := h) (a := a) hRp (xs.getD (i + 1) 0) (xs.getD (i + 2) 0) (xs.getD (i + 3) 0)) hN2
  rw [if_neg c21]
  by_cases c22 : w = 22
  · rw [if_pos c22]
    exact ls_2 xs (d + 120) (R := lwR c s) hx e1 e2 (fun H h => op_auction xs (d + 120) (H := H) (h := h) (a := a) hRp (xs.getD (i + 1) 0) (xs.getD (i + 2) 0)) hN2
  rw [if_neg c22]
  by_cases c23 : w = 23
  · rw [if_pos c23]
    exact ls_3 xs (d + 120) (R := lwR c s) hx e1 e2 e3 (fun H h => op_part xs (d + 120) (H := H) (h := h) (a := a) hRp (xs.getD (i + 1) 0) (xs.getD (i + 2) 0) (xs.getD (i + 3) 0)) hN2
  rw [if_neg c23]
  by_cases c24 : w = 24
  · rw [if_pos c24]
    exact ls_2 xs (d + 120) (R := lwR c s) hx e1 e2 (fun H h => op_round xs (d + 120) (H := H) (h := h) (a := a) hRp (xs.getD (i + 1) 0) (xs.getD (i + 2) 0)) hN2
  rw [if_neg c24]
  by_cases c25 : w = 25
  · rw [if_pos c25]
    exact ls_i xs (d + 120) (R := lwR c s) hx  (fun H h => op_busiest xs (d + 120) (H := H) (h := h) (a := a) hRp ) hN2
  rw [if_neg c25]
  by_cases c26 : w = 26
  · rw [if_pos c26]
    exact ls_1 xs (d + 120) (R := lwR c s) hx e1 (fun H h => op_hard xs (d + 120) (H := H) (h := h) (a := a) hRp (xs.getD (i + 1) 0)) hN2
  rw [if_neg c26]
  by_cases c27 : w = 27
  · rw [if_pos c27]
    rw [e1, e2, e3]
    show lwR c s (if xs.getD (i + 3) 0 = 0 then _ else _)
    by_cases z : xs.getD (i + 3) 0 = 0
    · rw [if_pos z]
      exact ls_hear xs (d + 120) hR hx e1 e2 e3 0 (by rw [if_pos z]) (fun C' M' h => hN n B C' M' (by omega) hB (by omega) (by omega) h)
    · rw [if_neg z]
      exact ls_hear xs (d + 120) hR hx e1 e2 e3 1 (by rw [if_neg z]) (fun C' M' h => hN n B C' M' (by omega) hB (by omega) (by omega) h)
  rw [if_neg c27]
  by_cases c28 : w = 28
  · rw [if_pos c28]
    exact ls_1 xs (d + 120) (R := lwR c s) hx e1 (fun H h => op_out xs (d + 120) (H := H) (h := h) (a := a) hRp (xs.getD (i + 1) 0)) hN2
  rw [if_neg c28]
  by_cases c29 : w = 29
  · rw [if_pos c29]
    exact ls_1 xs (d + 120) (R := lwR c s) hx e1 (fun H h => op_known xs (d + 120) (H := H) (h := h) (a := a) hRp (xs.getD (i + 1) 0)) hN2
  rw [if_neg c29]
  by_cases c30 : w = 30
  · rw [if_pos c30]
    exact ls_1 xs (d + 120) (R := lwR c s) hx e1 (fun H h => op_spans xs (d + 120) (H := H) (h := h) (a := a) hRp (xs.getD (i + 1) 0)) hN2
  rw [if_neg c30]
  by_cases c31 : w = 31
  · rw [if_pos c31]
    exact ls_3 xs (d + 120) (R := lwR c s) hx e1 e2 e3 (fun H h => op_chance xs (d + 120) (H := H) (h := h) (a := a) hRp (xs.getD (i + 1) 0) (xs.getD (i + 2) 0) (xs.getD (i + 3) 0)) hN2
  rw [if_neg c31]
  by_cases c32 : w = 32
  · rw [if_pos c32]
    exact ls_3 xs (d + 120) (R := lwR c s) hx e1 e2 e3 (fun H h => op_tried xs (d + 120) (H := H) (h := h) (a := a) hRp (xs.getD (i + 1) 0) (xs.getD (i + 2) 0) (xs.getD (i + 3) 0)) hN2
  rw [if_neg c32]
  by_cases c33 : w = 33
  · rw [if_pos c33]
    exact ls_i xs (d + 120) (R := lwR c s) hx  (fun H h => op_undo xs (d + 120) (H := H) (h := h) (a := a) hRp ) hN2
  rw [if_neg c33]
  by_cases c34 : w = 34
  · rw [if_pos c34]
    exact ls_i xs (d + 120) (R := lwR c s) hx  (fun H h => op_keep xs (d + 120) (H := H) (h := h) (a := a) hRp ) hN2
  rw [if_neg c34]
  by_cases c35 : w = 35
  · rw [if_pos c35]
    exact ls_i xs (d + 120) (R := lwR c s) hx  (fun H h => op_back xs (d + 120) (H := H) (h := h) (a := a) hRp ) hN2
  rw [if_neg c35]
  by_cases c36 : w = 36
  · rw [if_pos c36]
    exact ls_1 xs (d + 120) (R := lwR c s) hx e1 (fun H h => op_count xs (d + 120) (H := H) (h := h) (a := a) hRp (xs.getD (i + 1) 0)) hN2
  rw [if_neg c36]
  exact hN2 C M hR
theorem lw_loop (hL : xs.length ≤ 3072) (hx : x + 158 ≤ a) (hb : a + 42 ≤ b) : ∀ k i n B C M, Rl x C M → obB b B → i ≤ xs.length → xs.length < i + 6 * k + 6 → 3 * k + 1 ≤ n → lwR (B.1 + k) (B.2.1 + 6 * k) (ia_qr xs (ia_cal xs (d + 120 + 20)) im_Law_law n 13 [.retAddr 0, .ref x, .ref a, .ref b, .int (nI i), .float 0, .float 0] [] (bothH B x a C M)) := by
  intro k
  induction k with
  | zero =>
    intro i n B C M hR hB hi h1 h2
    obtain ⟨n, rfl⟩ : ∃ m, n = m + 1 := ⟨n - 1, by omega⟩
    rw [iq_Law_law_13, if_pos (lw_end xs hL hi (by omega)), if_pos (Or.inr rfl)]
    exact ⟨_, rfl, Nat.le_add_right _ _, Nat.le_add_right _ _⟩
  | succ k ih =>
    intro i n B C M hR hB hi h1 h2
    obtain ⟨n, rfl⟩ : ∃ m, n = m + 3 := ⟨n - 3, by omega⟩
    rcases Nat.lt_or_ge xs.length (i + 6) with z | z
    · rw [iq_Law_law_13, if_pos (lw_end xs hL hi z), if_pos (Or.inr rfl)]
      exact ⟨_, rfl, Nat.le_add_right _ _, Nat.le_add_right _ _⟩
    · refine lw_step xs d hL z hx hb hR hB fun m B' C' M' hm hB' b1 b2 hR' => ?_
      rw [show nI i + 6 = nI (i + 6) from nI_add i 6]
      obtain ⟨h', g1, g2, g3⟩ := ih (i + 6) m B' C' M' hR' hB' z (by omega) (by omega)
      exact ⟨h', g1, by omega, by omega⟩
end KX0
