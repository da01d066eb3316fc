/-! A deed done, told to both. -/
def DP (D D' : aG) (k' s : Nat) (v1 v2 v3 : Int32) : Prop := (∀ j, j < 3 → (D'.2.1 j).length = 20) ∧ D'.1 0 = nI (k' + 1) ∧ (∀ j i, j < 3 → i < k' → fG D' j i = fG D j (i + s)) ∧ fG D' 0 k' = v1 ∧ fG D' 1 k' = v2 ∧ fG D' 2 k' = v3 ∧ ((∀ i, nnB (fG D 2 i)) → nnB v3 → ∀ i, nnB (fG D' 2 i))
theorem adD_P {D0 D : aG} {k s : Nat} {v1 v2 v3 : Int32} (hl : ∀ j, j < 3 → (D.2.1 j).length = 20) (hk : k < 20) (hf : ∀ j i, j < 3 → i < k → fG D j i = fG D0 j (i + s)) (hn : (∀ i, nnB (fG D0 2 i)) → ∀ i, nnB (fG D 2 i)) : DP D0 (adD D k v1 v2 v3) k s v1 v2 v3 := by
  obtain ⟨r0, r1, r2⟩ := adD_r (D := D) (k := k) (v1 := v1) (v2 := v2) (v3 := v3)
  have l0 := hl 0 (by decide)
  have l1 := hl 1 (by decide)
  have l2 := hl 2 (by decide)
  have j3 : ∀ j, j < 3 → j = 0 ∨ j = 1 ∨ j = 2 := fun j hj => by omega
  have f0 : ∀ i, fG (adD D k v1 v2 v3) 0 i = if i = k then v1 else fG D 0 i := fun i => by unfold fG; rw [r0, ia_set_getD (by omega)]
  have f1 : ∀ i, fG (adD D k v1 v2 v3) 1 i = if i = k then v2 else fG D 1 i := fun i => by unfold fG; rw [r1, ia_set_getD (by omega)]
  have f2 : ∀ i, fG (adD D k v1 v2 v3) 2 i = if i = k then v3 else fG D 2 i := fun i => by unfold fG; rw [r2, ia_set_getD (by omega)]
  refine ⟨fun j hj => ?_, gI_s, fun j i hj hi => ?_, by rw [f0, if_pos rfl], by rw [f1, if_pos rfl], by rw [f2, if_pos rfl], fun h1 h2 i => ?_⟩
  · rcases j3 j hj with rfl | rfl | rfl
    · rw [r0, List.length_set]; exact l0
    · rw [r1, List.length_set]; exact l1
    · rw [r2, List.length_set]; exact l2
  · have := hf j i hj hi
    rcases j3 j hj with rfl | rfl | rfl
    · rw [f0, if_neg (by omega)]; exact this
    · rw [f1, if_neg (by omega)]; exact this
    · rw [f2, if_neg (by omega)]; exact this
  · rw [f2]
    split
    · exact h2
    · exact hn h1 i
section O29
variable (xs : List Int32) (d : Nat) {H h : ia_H} {x a : Nat} {C : aC} {M M' D D' : aG} {σ : Bool} {p n r t t0 q : Nat}
theorem d_add {k k' s : Nat} (hl : ∀ j, j < 3 → ((C.1 16).2.1 j).length = 20) (hk : (C.1 16).1 0 = nI k) (hk' : k' < 20) (hs : k' + s = k) (hs2 : s = 0 ∨ (s = 1 ∧ k = 20)) (v1 v2 v3 : Int32) : ∃ D', DP (C.1 16) D' k' s v1 v2 v3 ∧ ia_cal xs (d + 2) im_Deeds_add [.ref (x + 154), .int v1, .int v2, .int v3] (tot H x C) = some (none, tot H x (uG C 16 D')) := by
  rw [iu_Deeds_add, iq_Deeds_add_0]
  rcases hs2 with rfl | ⟨rfl, rfl⟩
  · have e : k' = k := by omega
    subst e
    refine ⟨adD (C.1 16) k' v1 v2 v3, adD_P hl hk' (fun j i _ _ => rfl) (fun h => h), ?_⟩
    simp only [↓tD_Ib, hk, ↓if_p (show nI k' < (20 : Int32) from nI_lt (b := 20) hk' (by decide))]
    exact d_add6 xs (d + 1) hl hk hk' v1 v2 v3 _
  · have e : k' = 19 := by omega
    subst e
    have l1 : ∀ j, j < 3 → (((uG C 16 (gI (shD (C.1 16) 19) 0 (nI 19))).1 16).2.1 j).length = 20 := fun j hj => by
      rw [uG_s, gI_2, shD_r j hj, updTo_len]; exact hl j hj
    have f1 : ∀ j i, j < 3 → fG (gI (shD (C.1 16) 19) 0 (nI 19)) j i = if i < 19 then fG (C.1 16) j (i + 1) else fG (C.1 16) j i := fun j i hj => by
      unfold fG
      rw [gI_2, shD_r j hj, updTo_get 19 i (by rw [hl j hj]; omega)]
      rfl
    refine ⟨adD (gI (shD (C.1 16) 19) 0 (nI 19)) 19 v1 v2 v3, adD_P (fun j hj => by have := l1 j hj; rw [uG_s] at this; exact this) (by omega) (fun j i hj hi => by rw [f1 j i hj, if_pos hi]) (fun hh i => by
      rw [f1 2 i (by decide)]
      split
      · exact hh _
      · exact hh _), ?_⟩
    simp only [↓tD_Ib, hk, ↓if_n (show ¬ nI 20 < (20 : Int32) by decide), ↓tD_clsb, ↓cV_of (d_drop xs d (H := H) (x := x) hl)]
    have := d_add6 xs (d + 1) (H := H) (x := x) (C := uG C 16 (gI (shD (C.1 16) 19) 0 (nI 19))) (k := 19) l1 (by rw [uG_s]; exact gI_s) (by omega) v1 v2 v3 999998
    rw [uG_s, uG_G] at this
    exact this
def eqT (X Y : aW) (t : Nat) : Prop := X.1 = Y.1 ∧ (∀ k, k < 2 ∨ 6 ≤ k → X.2 k = Y.2 k) ∧ ∀ k, 2 ≤ k → k < 6 → (X.2 k).length = (Y.2 k).length ∧ ∀ i, i < t → fA X k i = fA Y k i
theorem eqT.rf {X : aW} : eqT X X t := ⟨rfl, fun _ _ => rfl, fun _ _ _ => ⟨rfl, fun _ _ => rfl⟩⟩
theorem eqT.ag {X Y : aW} (h : eqT X Y t) : agW Y X t r p := by
  obtain ⟨h1, h2, h3⟩ := h
  refine ⟨by rw [h1], by rw [h1], fun k hk i hi => by unfold fA; rw [h2 k (by omega)], fun k hk hk2 i hi => ((h3 k hk hk2).2 i hi).symm, fun k hk hk2 i hi => by unfold fA; rw [h2 k (by omega)]⟩
theorem eqT.ln {X Y : aW} (h : eqT X Y t) (hX : lnX X) : lnX Y := by
  obtain ⟨h1, h2, h3⟩ := h
  refine ⟨fun k hk => by rw [← h2 k (by omega)]; exact hX.1 k hk, fun k hk hk2 => by rw [← (h3 k hk hk2).1]; exact hX.2.1 k hk hk2, fun k hk hk2 => by rw [← h2 k (by omega)]; exact hX.2.2 k hk hk2⟩
theorem eqT.wf {X Y : aW} (h : eqT X Y t) (hX : wfX X t r p) : wfX Y t r p := ag_wf (h.ln hX.1.lnX) (by rw [h.1]) (by rw [h.1]) h.ag hX
theorem eqT.dk {X Y : aW} (h : eqT X Y t) {e : Nat} (hd : dkA M e X t r p) : dkA M e Y t r p := by
  obtain ⟨h1, h2, h3, h4, h5, h6⟩ := hd
  have g := h.ag (r := r) (p := p)
  refine ⟨by rw [h1, g.1], by rw [h2, g.2.1], by rw [h3, h.1], fun k hk i hi => by rw [h4 k hk i hi, g.2.2.1 k hk i hi], fun k hk hk2 i hi => by rw [h5 k hk hk2 i hi, g.2.2.2.1 k hk hk2 i hi], fun k hk hk2 i hi => by rw [h6 k hk hk2 i hi, g.2.2.2.2 k (by omega) hk2 i hi]⟩
theorem eqT.sA {X Y : aW} {k : Nat} {l : List Int32} (hk : k < 2 ∨ 6 ≤ k) (h : eqT X Y t) : eqT (sA X k l) (sA Y k l) t := by
  obtain ⟨h1, h2, h3⟩ := h
  refine ⟨h1, fun j hj => ?_, fun j hj hj2 => ?_⟩
  · by_cases e : j = k
    · subst e; rw [sA_2, sA_2]
    · rw [sA_n e, sA_n e]; exact h2 j hj
  · rw [sA_n (by omega), sA_n (by omega), fA_n (by omega), fA_n (by omega)]
    exact h3 j hj hj2
theorem uDo_eq {k : Nat} {X X' Y : aW} {t' : Nat} (hu : uDo D k r p X t X' t') (h : eqT X Y t) : ∃ Y', uDo D k r p Y t Y' t' ∧ eqT X' Y' t' := by
  rcases hu with ⟨h1, rfl, rfl⟩ | ⟨h1, rfl, c, hc, h2, rfl⟩ | ⟨h1, rfl, c, hc, h2, rfl⟩ | ⟨h1, rfl, c, hc, h2, rfl⟩
  · refine ⟨sI Y 2 (nI t'), Or.inl ⟨h1, rfl, rfl⟩, ?_, h.2.1, fun k hk hk2 => ⟨(h.2.2 k hk hk2).1, fun i hi => (h.2.2 k hk hk2).2 i (by omega)⟩⟩
    show va_up X.1 2 (nI t') = va_up Y.1 2 (nI t')
    rw [h.1]
  · refine ⟨_, Or.inr (Or.inl ⟨h1, rfl, c, hc, h2, rfl⟩), ?_⟩
    rw [← h.2.1 8 (by omega)]
    exact h.sA (by omega)
  · refine ⟨_, Or.inr (Or.inr (Or.inl ⟨h1, rfl, c, hc, h2, rfl⟩)), ?_⟩
    rw [← h.2.1 10 (by omega)]
    exact h.sA (by omega)
  · refine ⟨_, Or.inr (Or.inr (Or.inr ⟨h1, rfl, c, hc, h2, rfl⟩)), ?_⟩
    rw [← h.2.1 0 (by omega)]
    exact h.sA (by omega)
theorem DDc_eq : ∀ k X Y t, DDc D M r p q k X t → eqT X Y t → DDc D M r p q k Y t
  | 0, _, _, _, _, _ => trivial
  | k + 1, X, Y, t, ⟨X', t', h1, h2, h3, h4, h5⟩, h => by
    obtain ⟨Y', g1, g2⟩ := uDo_eq h1 h
    exact ⟨Y', t', g1, g2.wf h2, g2.dk h3, ag_bd (p := p) g2.ag h4, DDc_eq k X' Y' t' h5 g2⟩
theorem uDo_c {k l : Nat} {X X' : aW} {t' : Nat} (h : ∀ j, j < 3 → fG D' j l = fG D j k) (hu : uDo D k r p X t X' t') : uDo D' l r p X t X' t' := by
  unfold uDo at *
  rw [h 0 (by decide), h 1 (by decide), h 2 (by decide)]
  exact hu
theorem DDc_sh {s k' : Nat} (hf : ∀ j i, j < 3 → i < k' → fG D' j i = fG D j (i + s)) (hd : ∀ i X t r p, i < k' → wfX X t r p → dkA M (3 + (i + s)) X t r p → dkA M' (3 + i) X t r p) : ∀ j X t, j ≤ k' → DDc D M r p q (j + s) X t → DDc D' M' r p q j X t
  | 0, _, _, _, _ => trivial
  | j + 1, X, t, hj, h => by
    rw [show j + 1 + s = j + s + 1 by omega] at h
    obtain ⟨X', t', h1, h2, h3, h4, h5⟩ := h
    exact ⟨X', t', uDo_c (fun i hi => hf i j hi (by omega)) h1, h2, hd j X' t' r p (by omega) h2 h3, h4, DDc_sh hf hd j X' t' (by omega) h5⟩
end O29
