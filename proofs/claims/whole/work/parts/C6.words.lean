/-! text: the words' letters. -/
def stL (k i : Nat) : Int32 := (ia_str k).getD i 0
theorem st_ok : ∀ i, i < (ia_str 3).length → (vp_nar .char (Int32.toUInt32 (stL 3 i &&& 255) % 65536).toInt32 = (Int32.toUInt32 (stL 3 i &&& 255) % 65536).toInt32) ∧ (Int32.toUInt32 (stL 3 i &&& 255) % 65536).toInt32 = stL 3 i ∧ vp_nar .char (stL 3 i) = stL 3 i := by decide +kernel
theorem st_len : (ia_str 3).length = 105 ∧ Int32.ofNat (ia_str 3).length = nI 105 := by decide +kernel
section CX6
variable (xs : List Int32) (d : Nat) (g : ia_H)
theorem s_latin : ia_cal xs (d + 1) im_Str_isLatin1 [.retAddr 3] g = some (some (.int 1), g) := by
  rw [iu_Str_isLatin1, iq_Str_isLatin1_0, if_neg (show ¬ (1 : Int32) = 0 by decide), if_pos (show ia_isS 3 = true from rfl), if_pos (show (0 : Int32) = 0 from rfl), ok1]
theorem s_latCharAt {i : Nat} (hi : i < 105) : ia_cal xs (d + 1) im_Lat_charAt [.retAddr 13, .int (nI i)] g = some (some (.int (stL 3 i)), g) := by
  obtain ⟨e1, e2, e3⟩ := st_ok i (by rw [st_len.1]; exact hi)
  rw [iu_Lat_charAt, iq_Lat_charAt_0]
  have xl : ∀ f, ia_xlen xs 13 f = f (nI 105) := fun f => by
    unfold ia_xlen
    rw [if_neg (by decide), if_pos (show ia_isB 13 = true from rfl)]
    show f (Int32.ofNat (ia_str 3).length) = _
    rw [st_len.2]
  have sp : ∀ k, ia_cV (ia_spec 4 [.int (nI i), .int (nI 105)] g) k = k g := fun k => by
    show ia_cV (if nI i < 0 then none else if nI i < nI 105 then some (none, g) else none) k = k g
    rw [if_neg (nI_pos (by omega)), if_pos (nI_lt hi (by omega))]
    rfl
  rw [xl, sp, if_pos (show ia_isB 13 = true from rfl), if_neg (nI_pos (by omega)), nI_clamp (by omega)]
  have ge : (ia_str (13 - 10))[i]? = some (stL 3 i) := by
    show (ia_str 3)[i]? = some ((ia_str 3).getD i 0)
    rw [List.getD_eq_getElem?_getD, List.getElem?_eq_getElem (by rw [st_len.1]; exact hi)]
    rfl
  rw [ge]
  show ((if vp_nar .char (Int32.toUInt32 (stL 3 i &&& 255) % 65536).toInt32 = (Int32.toUInt32 (stL 3 i &&& 255) % 65536).toInt32 then some (some (Value.int (Int32.toUInt32 (stL 3 i &&& 255) % 65536).toInt32), g) else none) : Option ia_R) = _
  rw [if_pos e1, e2]
theorem s_charAt {i : Nat} (hi : i < 105) : ia_cal xs (d + 2) im_Str_charAt [.retAddr 3, .int (nI i)] g = some (some (.int (stL 3 i)), g) := by
  obtain ⟨-, -, e3⟩ := st_ok i (by rw [st_len.1]; exact hi)
  rw [iu_Str_charAt, iq_Str_charAt_0, if_pos (show ia_isS 3 = true from rfl)]
  simp only [↓cI_of (s_latin xs d g), ↓if_n (show ¬ (1 : Int32) = 0 by decide), ↓if_p (show ia_isS 3 = true from rfl), ↓cI_of (s_latCharAt xs d g hi), ↓if_p e3]
end CX6
