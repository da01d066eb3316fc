/-! Deeds in the class. -/
def nxG (l : List Int32) (j : Nat) : Int32 := l.getD (j + 1) 0
def shD (D : aG) (i : Nat) : aG := gA (gA (gA D 0 (updTo (D.2.1 0) (nxG (D.2.1 0)) i)) 1 (updTo (D.2.1 1) (nxG (D.2.1 1)) i)) 2 (updTo (D.2.1 2) (nxG (D.2.1 2)) i)
def adD (D : aG) (k : Nat) (v1 v2 v3 : Int32) : aG := gI (gA (gA (gA D 0 ((D.2.1 0).set k v1)) 1 ((D.2.1 1).set k v2)) 2 ((D.2.1 2).set k v3)) 0 (nI (k + 1))
theorem shD_0 {D : aG} : shD D 0 = D := by
  unfold shD updTo
  rw [gA_id]
  have e1 : gA D 1 (D.2.1 1) = D := gA_id
  have e2 : gA D 2 (D.2.1 2) = D := gA_id
  rw [e1, e2]
theorem shD_r {D : aG} {i : Nat} : ∀ j, j < 3 → (shD D i).2.1 j = updTo (D.2.1 j) (nxG (D.2.1 j)) i
  | 0, _ => rfl
  | 1, _ => rfl
  | 2, _ => rfl
theorem adD_r {D : aG} {k : Nat} {v1 v2 v3 : Int32} : (adD D k v1 v2 v3).2.1 0 = (D.2.1 0).set k v1 ∧ (adD D k v1 v2 v3).2.1 1 = (D.2.1 1).set k v2 ∧ (adD D k v1 v2 v3).2.1 2 = (D.2.1 2).set k v3 := ⟨rfl, rfl, rfl⟩
section O28
variable (xs : List Int32) (d : Nat) {H : ia_H} {x : Nat} {C : aC}
theorem d_add6 {k : Nat} (hl : ∀ j, j < 3 → ((C.1 16).2.1 j).length = 20) (hk : (C.1 16).1 0 = nI k) (hk2 : k < 20) (v1 v2 v3 : Int32) (N : Nat) : ia_qr xs (ia_cal xs d) im_Deeds_add (N + 1) 6 [.ref (x + 154), .int v1, .int v2, .int v3] [] (tot H x C) = some (none, tot H x (uG C 16 (adD (C.1 16) k v1 v2 v3))) := by
  have l0 := hl 0 (by decide)
  have l1 := hl 1 (by decide)
  have l2 := hl 2 (by decide)
  generalize hD : C.1 16 = D at *
  have w0 : wr (D.2.1 0) (nI k) v1 = some ((D.2.1 0).set k v1) := wr_nI (by omega) (by omega)
  have w1 : wr ((gA D 0 ((D.2.1 0).set k v1)).2.1 1) (nI k) v2 = some ((D.2.1 1).set k v2) := wr_nI (l := D.2.1 1) (by omega) (by omega)
  have w2 : wr ((gA (gA D 0 ((D.2.1 0).set k v1)) 1 ((D.2.1 1).set k v2)).2.1 2) (nI k) v3 = some ((D.2.1 2).set k v3) := wr_nI (l := D.2.1 2) (by omega) (by omega)
  have i1 : (gA D 0 ((D.2.1 0).set k v1)).1 0 = nI k := hk
  have i2 : (gA (gA D 0 ((D.2.1 0).set k v1)) 1 ((D.2.1 1).set k v2)).1 0 = nI k := hk
  have i3 : (gA (gA (gA D 0 ((D.2.1 0).set k v1)) 1 ((D.2.1 1).set k v2)) 2 ((D.2.1 2).set k v3)).1 0 = nI k := hk
  rw [iq_Deeds_add_6]
  simp only [↓tD_Rb, ↓tD_Ib, ↓tD_stb, ↓tD_pfb, hD, hk, ↓bs w0, uG_s, uG_G, i1, ↓bs w1, i2, ↓bs w2, i3, nI_1]
  rfl
theorem d_drop (hl : ∀ j, j < 3 → ((C.1 16).2.1 j).length = 20) : ia_cal xs (d + 1) im_Deeds_dropFirst [.ref (x + 154)] (tot H x C) = some (none, tot H x (uG C 16 (gI (shD (C.1 16) 19) 0 (nI 19)))) := by
  have l0 := hl 0 (by decide)
  have l1 := hl 1 (by decide)
  have l2 := hl 2 (by decide)
  generalize hD : C.1 16 = D at *
  rw [iu_Deeds_dropFirst, iq_Deeds_dropFirst_0]
  have loop : ∀ j i N, i + j = 19 → j + 1 ≤ N → ia_qr xs (ia_cal xs d) im_Deeds_dropFirst N 2 [.ref (x + 154), .int (nI (i + 1))] [] (tot H x (uG C 16 (shD D i))) = some (none, tot H x (uG C 16 (gI (shD D 19) 0 (nI 19)))) := by
    intro j
    induction j with
    | zero =>
      intro i N hi hN
      obtain ⟨N, rfl⟩ : ∃ k, N = k + 1 := ⟨N - 1, by omega⟩
      have : i = 19 := by omega
      subst this
      rw [iq_Deeds_dropFirst_2, if_n (show ¬ nI (19 + 1) < (20 : Int32) by decide)]
      simp only [↓tD_pfb, uG_s, uG_G]
      rfl
    | succ j ih =>
      intro i N hi hN
      obtain ⟨N, rfl⟩ : ∃ k, N = k + 1 := ⟨N - 1, by omega⟩
      have m1 : nI (i + 1) - 1 = nI i := (pk_sub (a := i + 1) (b := 1) (by omega)).trans (by rw [Nat.add_sub_cancel])
      have rdx : ∀ l : List Int32, l.length = 20 → rd (updTo l (nxG l) i) (nI (i + 1)) = some (nxG l i) := fun l hl => by
        rw [rdN (by rw [updTo_len]; omega) (by rw [updTo_len]; omega), updTo_get i (i + 1) (by omega), if_neg (by omega)]
        rfl
      have wrx : ∀ l : List Int32, l.length = 20 → wr (updTo l (nxG l) i) (nI i) (nxG l i) = some (updTo l (nxG l) (i + 1)) := fun l hl => updTo_wr (by omega) (by omega) rfl
      have a0 : rd ((shD D i).2.1 0) (nI (i + 1)) = some (nxG (D.2.1 0) i) := rdx _ l0
      have b0 : wr ((shD D i).2.1 0) (nI i) (nxG (D.2.1 0) i) = some (updTo (D.2.1 0) (nxG (D.2.1 0)) (i + 1)) := wrx _ l0
      have a1 : rd ((gA (shD D i) 0 (updTo (D.2.1 0) (nxG (D.2.1 0)) (i + 1))).2.1 1) (nI (i + 1)) = some (nxG (D.2.1 1) i) := rdx _ l1
      have b1 : wr ((gA (shD D i) 0 (updTo (D.2.1 0) (nxG (D.2.1 0)) (i + 1))).2.1 1) (nI i) (nxG (D.2.1 1) i) = some (updTo (D.2.1 1) (nxG (D.2.1 1)) (i + 1)) := wrx _ l1
      have a2 : rd ((gA (gA (shD D i) 0 (updTo (D.2.1 0) (nxG (D.2.1 0)) (i + 1))) 1 (updTo (D.2.1 1) (nxG (D.2.1 1)) (i + 1))).2.1 2) (nI (i + 1)) = some (nxG (D.2.1 2) i) := rdx _ l2
      have b2 : wr ((gA (gA (shD D i) 0 (updTo (D.2.1 0) (nxG (D.2.1 0)) (i + 1))) 1 (updTo (D.2.1 1) (nxG (D.2.1 1)) (i + 1))).2.1 2) (nI i) (nxG (D.2.1 2) i) = some (updTo (D.2.1 2) (nxG (D.2.1 2)) (i + 1)) := wrx _ l2
      have e3 : gA (gA (gA (shD D i) 0 (updTo (D.2.1 0) (nxG (D.2.1 0)) (i + 1))) 1 (updTo (D.2.1 1) (nxG (D.2.1 1)) (i + 1))) 2 (updTo (D.2.1 2) (nxG (D.2.1 2)) (i + 1)) = shD D (i + 1) := by
        refine Prod.ext rfl (Prod.ext ?_ rfl)
        funext j
        show (if j = 2 then _ else if j = 1 then _ else if j = 0 then _ else (if j = 2 then _ else if j = 1 then _ else if j = 0 then _ else D.2.1 j)) = (if j = 2 then _ else if j = 1 then _ else if j = 0 then _ else D.2.1 j)
        by_cases c2 : j = 2
        · rw [if_pos c2, if_pos c2]
        · by_cases c1 : j = 1
          · rw [if_neg c2, if_pos c1, if_neg c2, if_pos c1]
          · by_cases c0 : j = 0
            · rw [if_neg c2, if_neg c1, if_pos c0, if_neg c2, if_neg c1, if_pos c0]
            · rw [if_neg c2, if_neg c1, if_neg c0, if_neg c2, if_neg c1, if_neg c0, if_neg c2, if_neg c1, if_neg c0]
      rw [iq_Deeds_dropFirst_2]
      simp only [↓if_p (show nI (i + 1) < (20 : Int32) from nI_lt (b := 20) (by omega) (by decide)), m1, ↓tD_Rb, ↓tD_ldb, ↓tD_stb, uG_s, uG_G, ↓bs a0, ↓bs b0, ↓bs a1, ↓bs b1, ↓bs a2, ↓bs b2, e3, nI_1]
      exact ih (i + 1) N (by omega) (by omega)
  have := loop 19 0 999999 (by omega) (by omega)
  rw [shD_0, ← hD, uG_id, hD] at this
  exact this
end O28
