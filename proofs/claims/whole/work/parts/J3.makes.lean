/-! Constructors: the words, the reader. -/
theorem s1_ok : ∀ i, i < (ia_str 1).length → (vp_nar .char (Int32.toUInt32 (stL 1 i &&& 255) % 65536).toInt32 = (Int32.toUInt32 (stL 1 i &&& 255) % 65536).toInt32) ∧ (Int32.toUInt32 (stL 1 i &&& 255) % 65536).toInt32 = stL 1 i ∧ vp_nar .char (stL 1 i) = stL 1 i := by decide +kernel
theorem s1_len : (ia_str 1).length = 105 ∧ Int32.ofNat (ia_str 1).length = nI 105 := by decide +kernel
section JX3a
variable (xs : List Int32) (d : Nat) (g : ia_H)
theorem s1_latin : ia_cal xs (d + 1) im_Str_isLatin1 [.retAddr 1] g = some (some (.int 1), g) := by
  rw [iu_Str_isLatin1, iq_Str_isLatin1_0, if_neg (show ¬ (1 : Int32) = 0 by decide), if_pos (show ia_isS 1 = true from rfl), if_pos (show (0 : Int32) = 0 from rfl), ok1]
theorem s1_latCharAt {i : Nat} (hi : i < 105) : ia_cal xs (d + 1) im_Lat_charAt [.retAddr 11, .int (nI i)] g = some (some (.int (stL 1 i)), g) := by
  obtain ⟨e1, e2, e3⟩ := s1_ok i (by rw [s1_len.1]; exact hi)
  rw [iu_Lat_charAt, iq_Lat_charAt_0]
  have xl : ∀ f, ia_xlen xs 11 f = f (nI 105) := fun f => by
    unfold ia_xlen
    rw [if_neg (by decide), if_pos (show ia_isB 11 = true from rfl)]
    show f (Int32.ofNat (ia_str 1).length) = _
    rw [s1_len.2]
  have sp : ∀ k, ia_cV (ia_spec 4 [.int (nI i), .int (nI 105)] g) k = k g := fun k => by
    show ia_cV (if nI i < 0 then none else if nI i < nI 105 then some (none, g) else none) k = k g
    rw [if_neg (nI_pos (by omega)), if_pos (nI_lt hi (by omega))]
    rfl
  rw [xl, sp, if_pos (show ia_isB 11 = true from rfl), if_neg (nI_pos (by omega)), nI_clamp (by omega)]
  have ge : (ia_str (11 - 10))[i]? = some (stL 1 i) := by
    show (ia_str 1)[i]? = some ((ia_str 1).getD i 0)
    rw [List.getD_eq_getElem?_getD, List.getElem?_eq_getElem (by rw [s1_len.1]; exact hi)]
    rfl
  rw [ge]
  show ((if vp_nar .char (Int32.toUInt32 (stL 1 i &&& 255) % 65536).toInt32 = (Int32.toUInt32 (stL 1 i &&& 255) % 65536).toInt32 then some (some (Value.int (Int32.toUInt32 (stL 1 i &&& 255) % 65536).toInt32), g) else none) : Option ia_R) = _
  rw [if_pos e1, e2]
theorem s1_charAt {i : Nat} (hi : i < 105) : ia_cal xs (d + 2) im_Str_charAt [.retAddr 1, .int (nI i)] g = some (some (.int (stL 1 i)), g) := by
  obtain ⟨-, -, e3⟩ := s1_ok i (by rw [s1_len.1]; exact hi)
  rw [iu_Str_charAt, iq_Str_charAt_0, if_pos (show ia_isS 1 = true from rfl)]
  simp only [↓cI_of (s1_latin xs d g), ↓if_n (show ¬ (1 : Int32) = 0 by decide), ↓if_p (show ia_isS 1 = true from rfl), ↓cI_of (s1_latCharAt xs d g hi), ↓if_p e3]

theorem s1_length  : ia_cal xs (d + 2) im_Str_length [.retAddr 1] g = some (some (.int (nI 105)), g) := by
  have xl : ∀ f, ia_xlen xs (10 + 1) f = f (nI 105) := fun f => by
    unfold ia_xlen
    rw [if_neg (by decide), if_pos (show ia_isB (10 + 1) = true from rfl)]
    show f (Int32.ofNat (ia_str 1).length) = _
    rw [s1_len.2]
  have co : ia_cal xs (d + 1) im_Str_coder [.retAddr 1] g = some (some (.int 0), g) := by
    rw [iu_Str_coder, iq_Str_coder_0, if_neg (show ¬ (1 : Int32) = 0 by decide), if_pos (show ia_isS 1 = true from rfl), if_pos (show vp_nar .byte (0 : Int32) = (0 : Int32) by decide)]
  rw [iu_Str_length, iq_Str_length_0, if_pos (show ia_isS 1 = true from rfl), xl, if_pos (show ia_isS 1 = true from rfl), cI_of co]
  rfl
end JX3a
/-- the words as the class packs them -/
def twF : Nat → Nat → Nat → Int32 → Nat → List Int32 → List Int32
  | 0, _, _, _, _, W => W
  | k + 1, i, w, l, m, W => if w < 21 then (if stL 1 i = 32 then twF k (i + 1) (w + 1) 0 0 (W.set w l) else twF k (i + 1) w (l ||| (((stL 1 i - 97) + 1) <<< (((5 : Int32) * ((5 : Int32) - nI m)) &&& 31))) (m + 1) W) else W
theorem tw_ok : twF 105 0 0 0 0 (List.replicate 21 0) = wordL := by decide +kernel
section JX3
variable {g : Nat → ia_E} {x s : Nat} {L0 R : List ia_E} {o : ia_E} (xs : List Int32) (d : Nat)
/-- the words' tokens while they are made -/
def tkO (w : Nat) : ia_E := .inr (.inr (7, [.int 0, .int 0, .int 0, .ref (w + 1), .int 0, .int 0, .ref (w + 2)]))
theorem tk_lp : ∀ k i w l m W F, i + k = 105 → w ≤ 21 → m ≤ i → W.length = 21 → k + 1 ≤ F → ia_qr xs (ia_cal xs (d + 2)) im_Tokens_init F 18 [.ref (x + L0.length), .int (nI w), .int l, .int (nI m), .int (nI i), .float 0] [] (hbB g x s (L0 ++ tkO (x + L0.length) :: [zL 1 0, .inl (0, W)])) = some (none, hbB g x s (L0 ++ tkO (x + L0.length) :: [zL 1 0, .inl (0, twF k i w l m W)])) := by
  intro k
  induction k with
  | zero =>
    intro i w l m W F hi hw hm hW hF
    obtain ⟨F, rfl⟩ : ∃ k, F = k + 1 := ⟨F - 1, by omega⟩
    rw [iq_Tokens_init_18, if_pos (show ia_isS 1 = true from rfl), cI_of (s1_length xs d _), show i = 105 by omega, if_neg (show ¬ nI 105 < nI 105 by decide), twF]
  | succ k ih =>
    intro i w l m W F hi hw hm hW hF
    obtain ⟨F, rfl⟩ : ∃ k, F = k + 1 := ⟨F - 1, by omega⟩
    rw [iq_Tokens_init_18, if_pos (show ia_isS 1 = true from rfl), cI_of (s1_length xs d _), if_pos (nI_lt (show i < 105 by omega) (by decide)), twF]
    by_cases cw : w < 21
    · rw [if_pos (show nI w < (21 : Int32) from nI_lt (b := 21) cw (by decide)), if_pos (show ia_isS 1 = true from rfl), cI_of (s1_charAt xs d _ (i := i) (by omega)), if_pos cw]
      by_cases c32 : stL 1 i = 32
      · rw [if_pos c32, if_pos c32]
        have gr : ∀ f : Nat → Option ia_R, (ia_getR (hbB g x s (L0 ++ tkO (x + L0.length) :: [zL 1 0, .inl (0, W)])) (x + L0.length) 7 6).bind f = f (x + L0.length + 2) := fun f => bs (getR_of hb_at rfl) f
        have e1 : L0 ++ tkO (x + L0.length) :: [zL 1 0, .inl (0, W)] = (L0 ++ [tkO (x + L0.length), zL 1 0]) ++ .inl (0, W) :: [] := by rw [List.append_assoc]; rfl
        have e2 : ∀ W', (L0 ++ [tkO (x + L0.length), zL 1 0]) ++ (.inl (0, W') : ia_E) :: [] = L0 ++ tkO (x + L0.length) :: [zL 1 0, .inl (0, W')] := fun W' => by rw [List.append_assoc]; rfl
        have el : x + (L0 ++ [tkO (x + L0.length), zL 1 0]).length = x + L0.length + 2 := by rw [List.length_append]; rfl
        have at_ : (hbB g x s (L0 ++ tkO (x + L0.length) :: [zL 1 0, .inl (0, W)])).2.2 (x + L0.length + 2) = .inl (0, W) := by
          rw [e1, ← el]; exact hb_at
        have ws : wr W (nI w) l = some (W.set w l) := wr_nI (by omega) (by omega)
        have st : ∀ f : ia_H → Option ia_R, (ia_ast (hbB g x s (L0 ++ tkO (x + L0.length) :: [zL 1 0, .inl (0, W)])) (x + L0.length + 2) 0 (nI w) l).bind f = f (hbB g x s (L0 ++ tkO (x + L0.length) :: [zL 1 0, .inl (0, W.set w l)])) := fun f => by
          rw [ast_of at_, ws]
          show f (ia_up _ _ _) = _
          rw [e1, ← el, hb_up, e2]
        rw [gr, st, nI_1, nI_1]
        exact ih (i + 1) (w + 1) 0 0 (W.set w l) F (by omega) (by omega) (by omega) (by rw [List.length_set]; exact hW) (by omega)
      · rw [if_neg c32, if_neg c32, nI_1, nI_1]
        exact ih (i + 1) w _ (m + 1) W F (by omega) hw (by omega) hW (by omega)
    · rw [if_neg (show ¬ nI w < (21 : Int32) from nI_nlt (b := 21) (by omega) (by omega)), if_neg cw]
def tkL (w : Nat) : List ia_E := tkO w :: [zL 1 0, .inl (0, wordL)]
theorem n_Tokens : ia_cal xs (d + 3) im_Tokens_init [.ref (x + L0.length)] (hbB g x s (L0 ++ [.inr (.inr (7, ia_dfl 7))])) = some (none, hbB g x (s + 21) (L0 ++ tkL (x + L0.length))) := by
  have n0 : Int32.toNatClampNeg 0 = 0 := by decide
  have n21 : Int32.toNatClampNeg 21 = 21 := by decide
  rw [iu_Tokens_init, show (1000000 : Nat) = 999999 + 1 from rfl, iq_Tokens_init_0]
  rw [hb_arr (R := []) (by decide) (by decide) n0 (Nat.le_of_ble_eq_true rfl)]
  rw [hb_arr (by decide) (by decide) n21 (Nat.le_of_ble_eq_true rfl)]
  rw [n0, n21]
  have := tk_lp xs d (g := g) (x := x) (s := s + 0 + 21) (L0 := L0) 105 0 0 0 0 (List.replicate 21 0) 999999 (by omega) (by omega) (by omega) rfl (by omega)
  rw [tw_ok] at this
  exact this
theorem n_Tsub : ia_cal xs (d + 3) im_Tokens_init [.ref (hbB g x s (L0 ++ o :: R)).1] (ia_new (hbB g x s (L0 ++ o :: R)) 7 (.inr (.inr (7, ia_dfl 7)))) = some (none, hbB g x (s + 28) (L0 ++ o :: (R ++ tkL (x + (L0.length + (R.length + 1)))))) := by
  have := n_Tokens xs d (g := g) (x := x) (s := s + 7) (L0 := L0 ++ o :: R)
  rw [ap_ln] at this
  rw [hb_n, hb_1, ap_as, ap_as, this]
/-- a new reader at w -/
def reL (w : Nat) : List ia_E := .inr (.inr (4, [.int 0, .int (-1), .int 0, .ref (w + 1), .ref (w + 26), .ref (w + 29), .int 0, .int 0])) :: (sdL (w + 1) ++ tkL (w + 26) ++ [zL 0 72])
theorem n_Reader : ia_cal xs (d + 4) im_Reader_init [.ref (x + L0.length)] (hbB g x s (L0 ++ [.inr (.inr (4, ia_dfl 4))])) = some (none, hbB g x (s + 468) (L0 ++ reL (x + L0.length))) := by
  have n72 : Int32.toNatClampNeg 72 = 72 := by decide
  rw [iu_Reader_init, iq_Reader_init_0]
  rw [hb_pf (R := []) (Nat.le_of_ble_eq_true rfl)]
  rw [cV_of (n_Ssub xs (d + 1) (R := [])), hb_1, hb_pf (Nat.le_of_ble_eq_true rfl), show x + (L0.length + (([] : List ia_E).length + 1)) = x + L0.length + 1 from rfl, List.nil_append]
  rw [cV_of (n_Tsub xs d), hb_1, hb_pf (Nat.le_of_ble_eq_true rfl), show x + (L0.length + ((sdL (x + L0.length + 1)).length + 1)) = x + L0.length + 26 from rfl]
  rw [hb_arr (by decide) (by decide) n72 (Nat.le_of_ble_eq_true rfl), show x + (L0.length + ((sdL (x + L0.length + 1) ++ tkL (x + L0.length + 26)).length + 1)) = x + L0.length + 29 from rfl, n72]
  unfold reL
  rfl
end JX3
