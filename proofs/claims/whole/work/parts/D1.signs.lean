/-! text: signs taken. -/
def ixF (w : Int32) : Nat → Nat → Int32
  | 0, _ => -1
  | k + 1, j => if stL 2 j = w then nI j else ixF w k (j + 1)
def sgK (b : Nat) : Nat := if b = 59 then 25 else if b = 40 then 26 else if b = 41 then 27 else if b = 43 then 28 else if b = 45 then 29 else if b = 42 then 30 else if b = 47 then 31 else if b = 61 then 32 else 1
theorem ix_sg : ∀ b, b < 256 → (if ixF (Int32.toInt8 (nI b)).toInt32 8 0 < 0 then 1 else 25 + ixF (Int32.toInt8 (nI b)).toInt32 8 0) = nI (sgK b) ∧ nI b = (Int32.toUInt32 (nI b) % 65536).toInt32 := by decide +kernel
theorem sgK_ok : ∀ b, b < 256 → sgK b < 33 ∧ (sgK b = 1 ∨ 25 ≤ sgK b) := by decide +kernel
def sgF (b n : Nat) : Nat × Nat := if b = 60 then (if n = 61 then (34, 2) else if n = 62 then (35, 2) else (33, 1)) else if b = 62 then (if n = 61 then (37, 2) else (36, 1)) else (sgK b, 1)
theorem gI_cm {Z : aG} {k l : Nat} {v w : Int32} (h : k ≠ l) : gI (gI Z k v) l w = gI (gI Z l w) k v := by
  refine Prod.ext (funext fun j => ?_) rfl
  show (if j = l then w else if j = k then v else Z.1 j) = if j = k then v else if j = l then w else Z.1 j
  by_cases c : j = l
  · rw [if_pos c, if_neg (by omega), if_pos c]
  · rw [if_neg c]
    by_cases c2 : j = k
    · rw [if_pos c2, if_pos c2]
    · rw [if_neg c2, if_neg c2, if_neg c]
section DX1
variable (xs : List Int32) (d : Nat)
theorem s2_len : (ia_str 2).length = 8 ∧ Int32.ofNat (ia_str 2).length = nI 8 := by decide +kernel
theorem s_ixChar (w : Int32) (g : ia_H) : ∀ k j F, j + k = 8 → k + 1 ≤ F → ia_qr xs (ia_cal xs d) im_Lat_indexOfChar F 5 [.retAddr 12, .float 0, .float 0, .int (nI 8), .int w, .int (nI j)] [] g = some (some (.int (ixF w k j)), g) := by
  intro k
  induction k with
  | zero =>
    intro j F hj hF
    obtain ⟨F, rfl⟩ : ∃ k, F = k + 1 := ⟨F - 1, by omega⟩
    rw [iq_Lat_indexOfChar_5, show j = 8 by omega, if_neg (show ¬ nI 8 < nI 8 by decide), ixF]
  | succ k ih =>
    intro j F hj hF
    obtain ⟨F, rfl⟩ : ∃ k, F = k + 1 := ⟨F - 1, by omega⟩
    have ge : (ia_str (12 - 10))[j]? = some (stL 2 j) := by
      show (ia_str 2)[j]? = some ((ia_str 2).getD j 0)
      rw [List.getD_eq_getElem?_getD, List.getElem?_eq_getElem (by rw [s2_len.1]; omega)]
      rfl
    rw [iq_Lat_indexOfChar_5, if_pos (nI_lt (show j < 8 by omega) (by decide)), if_pos (show ia_isB 12 = true from rfl), if_neg (nI_pos (by omega)), nI_clamp (by omega), ge, ixF]
    show (if stL 2 j = w then _ else _) = _
    by_cases c : stL 2 j = w
    · rw [if_pos c, if_pos c]
    · rw [if_neg c, if_neg c, nI_1]
      exact ih (j + 1) F (by omega) (by omega)
theorem s_indexOf {b : Nat} (hb : b < 256) (g : ia_H) : ia_cal xs (d + 5) im_Str_indexOf [.retAddr 2, .int (nI b)] g = some (some (.int (ixF (Int32.toInt8 (nI b)).toInt32 8 0)), g) := by
  have la : ia_cal xs (d + 3) im_Str_isLatin1 [.retAddr 2] g = some (some (.int 1), g) := by
    rw [iu_Str_isLatin1, iq_Str_isLatin1_0, if_neg (show ¬ (1 : Int32) = 0 by decide), if_pos (show ia_isS 2 = true from rfl), if_pos (show (0 : Int32) = 0 from rfl), ok1]
  have xl : ∀ f, ia_xlen xs 12 f = f (nI 8) := fun f => by
    unfold ia_xlen
    rw [if_neg (by decide), if_pos (show ia_isB 12 = true from rfl)]
    show f (Int32.ofNat (ia_str 2).length) = _
    rw [s2_len.2]
  have co : ia_cal xs (d + 2) im_Str_coder [.retAddr 2] g = some (some (.int 0), g) := by
    rw [iu_Str_coder, iq_Str_coder_0, if_neg (show ¬ (1 : Int32) = 0 by decide), if_pos (show ia_isS 2 = true from rfl), if_pos (show vp_nar .byte (0 : Int32) = (0 : Int32) by decide)]
  have le : ia_cal xs (d + 3) im_Str_length [.retAddr 2] g = some (some (.int (nI 8)), g) := by
    rw [iu_Str_length, iq_Str_length_0, if_pos (show ia_isS 2 = true from rfl), show 10 + 2 = 12 from rfl, xl, if_pos (show ia_isS 2 = true from rfl), cI_of co]
    rfl
  have ca : ia_cal xs (d + 2) im_Lat_canEncode [.int (nI b)] g = some (some (.int 1), g) := by
    rw [iu_Lat_canEncode, iq_Lat_canEncode_0, if_neg (nI_pos (by omega)), if_neg (show ¬ (255 : Int32) < nI b from nI_nlt (a := 255) (by omega) (by decide)), if_pos (Or.inr rfl)]
  have ic : ia_cal xs (d + 2) im_Lat_indexOfChar [.retAddr 12, .int (nI b), .int 0, .int (nI 8)] g = some (some (.int (ixF (Int32.toInt8 (nI b)).toInt32 8 0)), g) := by
    rw [iu_Lat_indexOfChar, show (1000000 : Nat) = 999999 + 1 from rfl, iq_Lat_indexOfChar_0]
    exact s_ixChar xs (d + 1) _ g 8 0 999999 (by omega) (by omega)
  have mx : ia_cal xs (d + 2) im_Math_maxI [.int 0, .int 0] g = some (some (.int 0), g) := by
    rw [k_maxI xs (d + 1), if_neg (show ¬ (0 : Int32) < 0 by decide)]
  have mn : ia_cal xs (d + 2) im_Math_minI [.int (nI 8), .int (nI 8)] g = some (some (.int (nI 8)), g) := by
    rw [k_minI xs (d + 1) (g := g), if_neg (show ¬ nI 8 < nI 8 by decide)]
  have li : ia_cal xs (d + 3) im_Lat_indexOf [.retAddr 12, .int (nI b), .int 0, .int (nI 8)] g = some (some (.int (ixF (Int32.toInt8 (nI b)).toInt32 8 0)), g) := by
    rw [iu_Lat_indexOf, iq_Lat_indexOf_0, cI_of ca, if_neg (show ¬ (1 : Int32) = 0 by decide), cI_of mx, xl, cI_of mn, if_pos (show (0 : Int32) < nI 8 by decide), cI_of ic]
  have i2 : ia_cal xs (d + 4) im_Str_indexOf2 [.retAddr 2, .int (nI b), .int 0] g = some (some (.int (ixF (Int32.toInt8 (nI b)).toInt32 8 0)), g) := by
    rw [iu_Str_indexOf2, iq_Str_indexOf2_0, if_pos (show ia_isS 2 = true from rfl), cI_of la, if_neg (show ¬ (1 : Int32) = 0 by decide), if_pos (show ia_isS 2 = true from rfl), if_pos (show ia_isS 2 = true from rfl), cI_of le, show 10 + 2 = 12 from rfl, cI_of li]
  rw [iu_Str_indexOf, iq_Str_indexOf_0, if_pos (show ia_isS 2 = true from rfl), cI_of i2]
variable {H h : ia_H} {x a : Nat} {C : aC} {M N : aG} {by_ : Nat → Nat} {T : Nat}
theorem t_sign55 {Z : aG} {i K F : Nat} (hK : K < 100) (h4 : Z.1 4 = nI (i + 1)) : ia_qr xs (ia_cal xs d) im_Tokens_takeSign (F + 2) 55 [.ref (x + 79), .float 0, .float 0, .float 0] [] (tot H x (uG C 6 (gI Z 0 (nI K)))) = some (none, tot H x (uG C 6 (gI (gI Z 4 (nI (i + if K = 34 ∨ K = 35 ∨ K = 37 then 2 else 1))) 0 (nI K)))) := by
  have q0 : (gI Z 0 (nI K)).1 0 = nI K := gI_s
  have q4 : (gI Z 0 (nI K)).1 4 = nI (i + 1) := h4
  have e4 : Z = gI Z 4 (nI (i + 1)) := by
    refine Prod.ext (funext fun j => ?_) rfl
    show Z.1 j = if j = 4 then nI (i + 1) else Z.1 j
    by_cases c : j = 4
    · rw [if_pos c, c, h4]
    · rw [if_neg c]
  have st : ia_qr xs (ia_cal xs d) im_Tokens_takeSign (F + 1) 67 [.ref (x + 79), .float 0, .float 0, .float 0] [] (tot H x (uG C 6 (gI Z 0 (nI K)))) = some (none, tot H x (uG C 6 (gI (gI Z 4 (nI (i + 2))) 0 (nI K)))) := by
    rw [iq_Tokens_takeSign_67]
    simp only [↓tT_Ib, ↓tT_pfb, uG_s, uG_G, q4, nI_1]
    rw [gI_cm (show 0 ≠ 4 by decide)]
  rw [iq_Tokens_takeSign_55]
  simp only [↓tT_Ib, uG_s, q0]
  have n34 : nI K = (34 : Int32) ↔ K = 34 := nI_eq (b := 34) (by omega) (by decide)
  have n35 : nI K = (35 : Int32) ↔ K = 35 := nI_eq (b := 35) (by omega) (by decide)
  have n37 : nI K = (37 : Int32) ↔ K = 37 := nI_eq (b := 37) (by omega) (by decide)
  by_cases c1 : K = 34
  · rw [if_pos (n34.mpr c1), st, if_pos (Or.inl c1)]
  · rw [if_neg (fun z => c1 (n34.mp z))]
    by_cases c2 : K = 35
    · rw [if_pos (n35.mpr c2), st, if_pos (Or.inr (Or.inl c2))]
    · rw [if_neg (fun z => c2 (n35.mp z))]
      by_cases c3 : K = 37
      · rw [if_pos (n37.mpr c3), st, if_pos (Or.inr (Or.inr c3))]
      · rw [if_neg (fun z => c3 (n37.mp z)), if_neg (by omega), ← e4]
def sgN (by_ : Nat → Nat) (T i : Nat) : Nat × Nat := sgF (by_ i) (if i + 1 < T then by_ (i + 1) else 0)
theorem sg_2 (b n : Nat) (hb : b < 256) : (sgF b n).1 < 100 ∧ (if (sgF b n).1 = 34 ∨ (sgF b n).1 = 35 ∨ (sgF b n).1 = 37 then 2 else 1) = (sgF b n).2 := by
  have := (sgK_ok b hb).1
  unfold sgF
  repeat' split
  all_goals first
    | exact ⟨by decide, rfl⟩
    | exact ⟨by omega, if_neg (by omega)⟩
    | (simp; done)
    | (constructor <;> simp_all <;> omega)
theorem t_takeSign (hb : txB (C.1 0) M by_ T) {Z : aG} (hL : Z.1 3 = nI T) (hr : Z.2.2.2.2 0 = x + 1) (i : Nat) (h4 : Z.1 4 = nI i) (hi : i < T) : ia_cal xs (d + 6) im_Tokens_takeSign [.ref (x + 79), .int (nI (by_ i))] (tot H x (uG C 6 Z)) = some (none, tot H x (uG C 6 (gI (gI Z 4 (nI (i + (sgN by_ T i).2))) 0 (nI (sgN by_ T i).1)))) := by
  have hT7 := hb.1
  have hbi := (hb.2.2.2 i hi).1
  have sg := t_signAt xs (d + 4) (H := H) (x := x) (C := uG C 6 Z) (M := M) (by_ := by_) (T := T) (by rw [uG_n (by decide)]; exact hb) (by rw [uG_s]; exact hL) (by rw [uG_s]; exact hr) (i + 1) (by omega)
  unfold sgN
  have hnx : (if i + 1 < T then nI (by_ (i + 1)) else 0) = nI (if i + 1 < T then by_ (i + 1) else 0) := by split <;> rfl
  have hnb : (if i + 1 < T then by_ (i + 1) else 0) < 256 := by
    split
    · rename_i c; exact (hb.2.2.2 (i + 1) c).1
    · decide
  rw [hnx] at sg
  generalize (if i + 1 < T then by_ (i + 1) else 0) = n at *
  generalize by_ i = b at *
  obtain ⟨k1, k2⟩ := sg_2 b n hbi
  rw [← k2]
  have fin : ∀ K F, K < 100 → ia_qr xs (ia_cal xs (d + 5)) im_Tokens_takeSign (F + 2) 55 [.ref (x + 79), .float 0, .float 0, .float 0] [] (tot H x (uG C 6 (gI (gI Z 4 (nI (i + 1))) 0 (nI K)))) = some (none, tot H x (uG C 6 (gI (gI Z 4 (nI (i + if K = 34 ∨ K = 35 ∨ K = 37 then 2 else 1))) 0 (nI K)))) := fun K F hK => by
    have := t_sign55 xs (d + 5) (H := H) (x := x) (C := C) (Z := gI Z 4 (nI (i + 1))) (i := i) (K := K) (F := F) hK gI_s
    rw [gI_I] at this
    exact this
  have ca : ∀ K F, K < 100 → ∀ c, c = 28 ∨ c = 40 ∨ c = 54 → ∀ v, v = nI K → ia_qr xs (ia_cal xs (d + 5)) im_Tokens_takeSign (F + 3) c [.ref (x + 79), .float 0, .float 0, .float 0] [.int v, .ref (x + 79)] (tot H x (uG C 6 (gI Z 4 (nI (i + 1))))) = some (none, tot H x (uG C 6 (gI (gI Z 4 (nI (i + if K = 34 ∨ K = 35 ∨ K = 37 then 2 else 1))) 0 (nI K)))) := fun K F hK c hc v hv => by
    rcases hc with rfl | rfl | rfl
    · rw [iq_Tokens_takeSign_28, hv]
      simp only [↓tT_pfb, uG_s, uG_G]
      exact fin K F hK
    · rw [iq_Tokens_takeSign_40, hv]
      simp only [↓tT_pfb, uG_s, uG_G]
      exact fin K F hK
    · rw [iq_Tokens_takeSign_54, hv]
      simp only [↓tT_pfb, uG_s, uG_G]
      exact fin K F hK
  rw [iu_Tokens_takeSign, show (1000000 : Nat) = 999996 + 3 + 1 from rfl, iq_Tokens_takeSign_0]
  simp only [↓tT_Ib, uG_s, h4, ↓tT_clsb, nI_1, ↓cI_of sg, ↓tT_pfb, uG_G]
  have eb : ∀ k, k < 256 → (nI b = nI k ↔ b = k) := fun k hk => nI_eq (by omega) (by omega)
  have en : ∀ k, k < 256 → (nI n = nI k ↔ n = k) := fun k hk => nI_eq (by omega) (by omega)
  unfold sgF
  by_cases c1 : b = 60
  · rw [if_pos (show nI b = (60 : Int32) from (eb 60 (by decide)).mpr c1), if_pos c1]
    by_cases c2 : n = 61
    · rw [if_pos (show nI n = (61 : Int32) from (en 61 (by decide)).mpr c2), if_pos c2]
      exact ca 34 _ (by decide) 28 (Or.inl rfl) _ rfl
    · rw [if_neg (show ¬ nI n = (61 : Int32) from fun z => c2 ((en 61 (by decide)).mp z)), if_neg c2]
      by_cases c3 : n = 62
      · rw [if_pos (show nI n = (62 : Int32) from (en 62 (by decide)).mpr c3), if_pos c3]
        exact ca 35 _ (by decide) 28 (Or.inl rfl) _ rfl
      · rw [if_neg (show ¬ nI n = (62 : Int32) from fun z => c3 ((en 62 (by decide)).mp z)), if_neg c3]
        exact ca 33 _ (by decide) 28 (Or.inl rfl) _ rfl
  · rw [if_neg (show ¬ nI b = (60 : Int32) from fun z => c1 ((eb 60 (by decide)).mp z)), if_neg c1]
    by_cases c2 : b = 62
    · rw [if_pos (show nI b = (62 : Int32) from (eb 62 (by decide)).mpr c2), if_pos c2]
      by_cases c3 : n = 61
      · rw [if_pos (show nI n = (61 : Int32) from (en 61 (by decide)).mpr c3), if_pos c3]
        exact ca 37 _ (by decide) 40 (Or.inr (Or.inl rfl)) _ rfl
      · rw [if_neg (show ¬ nI n = (61 : Int32) from fun z => c3 ((en 61 (by decide)).mp z)), if_neg c3]
        exact ca 36 _ (by decide) 40 (Or.inr (Or.inl rfl)) _ rfl
    · rw [if_neg (show ¬ nI b = (62 : Int32) from fun z => c2 ((eb 62 (by decide)).mp z)), if_neg c2, if_pos (show ia_isS 2 = true from rfl), cI_of (s_indexOf xs d hbi _)]
      obtain ⟨k3, -⟩ := ix_sg b hbi
      have k4 := (sgK_ok b hbi).1
      by_cases c3 : ixF (Int32.toInt8 (nI b)).toInt32 8 0 < 0
      · rw [if_pos c3] at k3 ⊢
        exact ca (sgK b) _ (by omega) 54 (Or.inr (Or.inr rfl)) _ k3
      · rw [if_neg c3] at k3 ⊢
        exact ca (sgK b) _ (by omega) 54 (Or.inr (Or.inr rfl)) _ k3
end DX1
