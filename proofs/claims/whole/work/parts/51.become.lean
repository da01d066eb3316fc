/-! World.become (written by genbec.py). -/
theorem lnX_sA {V : aW} {i : Nat} {l : List Int32} (h : lnX V) (hl : l.length = (V.2 i).length) : lnX (sA V i l) := by
  have key : ∀ j, ((sA V i l).2 j).length = (V.2 j).length := fun j => by
    by_cases e : j = i
    · subst e
      rw [sA_2, hl]
    · rw [sA_n e]
  exact ⟨fun j hj => by rw [key]; exact h.1 j hj, fun j hj hj2 => by rw [key]; exact h.2.1 j hj hj2, fun j hj hj2 => by rw [key]; exact h.2.2 j hj hj2⟩
theorem lnX_sI {V : aW} {i : Nat} {v : Int32} (h : lnX V) : lnX (sI V i v) := h
def lenW (i : Nat) : Nat := if i < 2 then 6 else if i < 6 then 8 else 10
theorem lnX_len {V : aW} (h : lnX V) {i : Nat} (hi : i < 12) : (V.2 i).length = lenW i := by
  unfold lenW
  by_cases c1 : i < 2
  · rw [if_pos c1]; exact h.1 i c1
  · by_cases c2 : i < 6
    · rw [if_neg c1, if_pos c2]; exact h.2.1 i (by omega) c2
    · rw [if_neg c1, if_neg c2]; exact h.2.2 i (by omega) hi
theorem pW_ext {h : ia_H} {a : Nat} {V V' : aW} (h1 : ∀ i, i < 4 → V.1 i = V'.1 i) (h2 : ∀ i, i < 12 → V.2 i = V'.2 i) : pW h a V = pW h a V' := by
  refine ia_ext rfl rfl fun k => ?_
  show (if a ≤ k ∧ k < a + 13 then cW a V (k - a) else h.2.2 k) = if a ≤ k ∧ k < a + 13 then cW a V' (k - a) else h.2.2 k
  by_cases c : a ≤ k ∧ k < a + 13
  · rw [if_pos c, if_pos c]
    have hlt : k - a < 13 := by omega
    generalize k - a = m at hlt
    match m, hlt with
    | 0, _ => simp only [cW, h1 0 (by decide), h1 1 (by decide), h1 2 (by decide), h1 3 (by decide)]
    | m + 1, hm => simp only [cW, h2 m (by omega)]
  · rw [if_neg c, if_neg c]
section BEC
variable {H : ia_H} {x : Nat} {C : aC} {j k : Nat}
theorem tot_wc (hk : k < 7) {i : Nat} (hi : i < 12) : (tot H x C).2.2 (wA x k + (i + 1)) = .inl (0, (C.2 k).2 i) := by
  have := pW_arr (tot H x C) (wA x k) (C.2 k) i hi
  rw [tq_W hk, uW_id] at this
  exact this
theorem tot_cpy (hj : j < 7) (hk : k < 7) {i m : Nat} {mI : Int32} (hi : i < 12) (hm : mI = nI m) (h31 : m < 2 ^ 31) (h1 : ((C.2 j).2 i).length = m) (h2 : ((C.2 k).2 i).length = m) : ia_cpy (tot H x C) (wA x j + (i + 1)) 0 (wA x k + (i + 1)) 0 mI = some (tot H x (uW C k (sA (C.2 k) i ((C.2 j).2 i)))) := by
  subst hm
  unfold ia_cpy
  rw [tot_wc hj hi, tot_wc hk hi]
  have hz : ¬ ((0 : Int32) < 0 ∨ (0 : Int32) < 0 ∨ nI m < 0) := by
    rintro (q | q | q)
    · exact absurd q (by decide)
    · exact absurd q (by decide)
    · exact nI_pos h31 q
  have e0 : (0 : Int32).toNatClampNeg = 0 := rfl
  simp only [if_neg hz, e0, nI_clamp h31, Nat.zero_add, h1, h2]
  rw [if_pos ⟨Nat.le_refl _, Nat.le_refl _⟩]
  have e1 : List.take 0 ((C.2 k).2 i) ++ (List.take m (List.drop 0 ((C.2 j).2 i)) ++ List.drop m ((C.2 k).2 i)) = (C.2 j).2 i := by
    rw [List.drop_eq_nil_of_le (as := (C.2 k).2 i) (by omega), List.drop_zero, List.take_of_length_le (l := (C.2 j).2 i) (by omega)]
    simp
  rw [e1]
  have := pW_up (tot H x C) (wA x k) (C.2 k) i hi ((C.2 j).2 i)
  rw [tq_W hk, tq_W hk, uW_id] at this
  rw [this]
theorem cpb (hj : j < 7) (hk : k < 7) (hjk : j ≠ k) {i m : Nat} {mI : Int32} (hi : i < 12) (hm : mI = nI m) (h31 : m < 2 ^ 31) (hJ : ((C.2 j).2 i).length = m) {V : aW} (hV : (V.2 i).length = m) {p q : Nat} (hp : p = wA x j + (i + 1)) (hq : q = wA x k + (i + 1)) (f : ia_H → Option ia_R) : (ia_cpy (tot H x (uW C k V)) p 0 q 0 mI).bind f = f (tot H x (uW C k (sA V i ((C.2 j).2 i)))) := by
  subst hp
  subst hq
  have := tot_cpy (H := H) (x := x) (C := uW C k V) hj hk hi hm h31 (by rw [uW_n hjk]; exact hJ) (by rw [uW_s]; exact hV)
  rw [uW_s, uW_n hjk, uW_W] at this
  rw [this]
  rfl
theorem k_become (xs : List Int32) (d : Nat) (hj : j < 7) (hk : k < 7) (hjk : j ≠ k) (hJ : lnX (C.2 j)) (hK : lnX (C.2 k)) : ia_cal xs (d + 1) im_World_become [.ref (wA x k), .ref (wA x j)] (tot H x C) = some (none, tot H x (uW C k (C.2 j))) := by
  have gI : ∀ V, _ := fun V => tW_Ib (H := H) (x := x) (C := uW C k V) hj
  have gR : ∀ V, _ := fun V => tW_Rb (H := H) (x := x) (C := uW C k V) hj
  have gK : ∀ V, _ := fun V => tW_Rb (H := H) (x := x) (C := uW C k V) hk
  have pI : ∀ V, _ := fun V => tW_pfb (H := H) (x := x) (C := uW C k V) hk
  simp only [uW_n hjk, uW_s, uW_W] at gI pI
  have v0 := hK
  have e := uW_id (C := C) (k := k)
  rw [iu_World_become, iq_World_become_0]
  rw [show tot H x C = tot H x (uW C k (C.2 k)) by rw [e]]
  rw [(gI (C.2 k)).1, (pI (C.2 k)).1]
  have v1 : lnX (sI (C.2 k) 0 ((C.2 j).1 0)) := lnX_sI v0
  rw [(gI (sI (C.2 k) 0 ((C.2 j).1 0))).2.1, (pI (sI (C.2 k) 0 ((C.2 j).1 0))).2.1]
  have v2 : lnX (sI (sI (C.2 k) 0 ((C.2 j).1 0)) 1 ((C.2 j).1 1)) := lnX_sI v1
  rw [(gR (sI (sI (C.2 k) 0 ((C.2 j).1 0)) 1 ((C.2 j).1 1))).1, (gK (sI (sI (C.2 k) 0 ((C.2 j).1 0)) 1 ((C.2 j).1 1))).1, cpb (x := x) (V := (sI (sI (C.2 k) 0 ((C.2 j).1 0)) 1 ((C.2 j).1 1))) hj hk hjk (i := 0) (m := 6) (mI := 6) (p := wA x j + 1) (q := wA x k + 1) (by decide) rfl (by decide) (lnX_len hJ (by decide)) (lnX_len v2 (by decide)) rfl rfl]
  have v3 : lnX (sA (sI (sI (C.2 k) 0 ((C.2 j).1 0)) 1 ((C.2 j).1 1)) 0 ((C.2 j).2 0)) := lnX_sA v2 (by rw [lnX_len hJ (by decide), lnX_len v2 (by decide)])
  rw [(gR (sA (sI (sI (C.2 k) 0 ((C.2 j).1 0)) 1 ((C.2 j).1 1)) 0 ((C.2 j).2 0))).2.1, (gK (sA (sI (sI (C.2 k) 0 ((C.2 j).1 0)) 1 ((C.2 j).1 1)) 0 ((C.2 j).2 0))).2.1, cpb (x := x) (V := (sA (sI (sI (C.2 k) 0 ((C.2 j).1 0)) 1 ((C.2 j).1 1)) 0 ((C.2 j).2 0))) hj hk hjk (i := 1) (m := 6) (mI := 6) (p := wA x j + 2) (q := wA x k + 2) (by decide) rfl (by decide) (lnX_len hJ (by decide)) (lnX_len v3 (by decide)) rfl rfl]
  have v4 : lnX (sA (sA (sI (sI (C.2 k) 0 ((C.2 j).1 0)) 1 ((C.2 j).1 1)) 0 ((C.2 j).2 0)) 1 ((C.2 j).2 1)) := lnX_sA v3 (by rw [lnX_len hJ (by decide), lnX_len v3 (by decide)])
  rw [(gI (sA (sA (sI (sI (C.2 k) 0 ((C.2 j).1 0)) 1 ((C.2 j).1 1)) 0 ((C.2 j).2 0)) 1 ((C.2 j).2 1))).2.2.1, (pI (sA (sA (sI (sI (C.2 k) 0 ((C.2 j).1 0)) 1 ((C.2 j).1 1)) 0 ((C.2 j).2 0)) 1 ((C.2 j).2 1))).2.2.1]
  have v5 : lnX (sI (sA (sA (sI (sI (C.2 k) 0 ((C.2 j).1 0)) 1 ((C.2 j).1 1)) 0 ((C.2 j).2 0)) 1 ((C.2 j).2 1)) 2 ((C.2 j).1 2)) := lnX_sI v4
  rw [(gR (sI (sA (sA (sI (sI (C.2 k) 0 ((C.2 j).1 0)) 1 ((C.2 j).1 1)) 0 ((C.2 j).2 0)) 1 ((C.2 j).2 1)) 2 ((C.2 j).1 2))).2.2.1, (gK (sI (sA (sA (sI (sI (C.2 k) 0 ((C.2 j).1 0)) 1 ((C.2 j).1 1)) 0 ((C.2 j).2 0)) 1 ((C.2 j).2 1)) 2 ((C.2 j).1 2))).2.2.1, cpb (x := x) (V := (sI (sA (sA (sI (sI (C.2 k) 0 ((C.2 j).1 0)) 1 ((C.2 j).1 1)) 0 ((C.2 j).2 0)) 1 ((C.2 j).2 1)) 2 ((C.2 j).1 2))) hj hk hjk (i := 2) (m := 8) (mI := 8) (p := wA x j + 3) (q := wA x k + 3) (by decide) rfl (by decide) (lnX_len hJ (by decide)) (lnX_len v5 (by decide)) rfl rfl]
  have v6 : lnX (sA (sI (sA (sA (sI (sI (C.2 k) 0 ((C.2 j).1 0)) 1 ((C.2 j).1 1)) 0 ((C.2 j).2 0)) 1 ((C.2 j).2 1)) 2 ((C.2 j).1 2)) 2 ((C.2 j).2 2)) := lnX_sA v5 (by rw [lnX_len hJ (by decide), lnX_len v5 (by decide)])
  rw [(gR (sA (sI (sA (sA (sI (sI (C.2 k) 0 ((C.2 j).1 0)) 1 ((C.2 j).1 1)) 0 ((C.2 j).2 0)) 1 ((C.2 j).2 1)) 2 ((C.2 j).1 2)) 2 ((C.2 j).2 2))).2.2.2.1, (gK (sA (sI (sA (sA (sI (sI (C.2 k) 0 ((C.2 j).1 0)) 1 ((C.2 j).1 1)) 0 ((C.2 j).2 0)) 1 ((C.2 j).2 1)) 2 ((C.2 j).1 2)) 2 ((C.2 j).2 2))).2.2.2.1, cpb (x := x) (V := (sA (sI (sA (sA (sI (sI (C.2 k) 0 ((C.2 j).1 0)) 1 ((C.2 j).1 1)) 0 ((C.2 j).2 0)) 1 ((C.2 j).2 1)) 2 ((C.2 j).1 2)) 2 ((C.2 j).2 2))) hj hk hjk (i := 3) (m := 8) (mI := 8) (p := wA x j + 4) (q := wA x k + 4) (by decide) rfl (by decide) (lnX_len hJ (by decide)) (lnX_len v6 (by decide)) rfl rfl]
  have v7 : lnX (sA (sA (sI (sA (sA (sI (sI (C.2 k) 0 ((C.2 j).1 0)) 1 ((C.2 j).1 1)) 0 ((C.2 j).2 0)) 1 ((C.2 j).2 1)) 2 ((C.2 j).1 2)) 2 ((C.2 j).2 2)) 3 ((C.2 j).2 3)) := lnX_sA v6 (by rw [lnX_len hJ (by decide), lnX_len v6 (by decide)])
  rw [(gR (sA (sA (sI (sA (sA (sI (sI (C.2 k) 0 ((C.2 j).1 0)) 1 ((C.2 j).1 1)) 0 ((C.2 j).2 0)) 1 ((C.2 j).2 1)) 2 ((C.2 j).1 2)) 2 ((C.2 j).2 2)) 3 ((C.2 j).2 3))).2.2.2.2.1, (gK (sA (sA (sI (sA (sA (sI (sI (C.2 k) 0 ((C.2 j).1 0)) 1 ((C.2 j).1 1)) 0 ((C.2 j).2 0)) 1 ((C.2 j).2 1)) 2 ((C.2 j).1 2)) 2 ((C.2 j).2 2)) 3 ((C.2 j).2 3))).2.2.2.2.1, cpb (x := x) (V := (sA (sA (sI (sA (sA (sI (sI (C.2 k) 0 ((C.2 j).1 0)) 1 ((C.2 j).1 1)) 0 ((C.2 j).2 0)) 1 ((C.2 j).2 1)) 2 ((C.2 j).1 2)) 2 ((C.2 j).2 2)) 3 ((C.2 j).2 3))) hj hk hjk (i := 4) (m := 8) (mI := 8) (p := wA x j + 5) (q := wA x k + 5) (by decide) rfl (by decide) (lnX_len hJ (by decide)) (lnX_len v7 (by decide)) rfl rfl]
  have v8 : lnX (sA (sA (sA (sI (sA (sA (sI (sI (C.2 k) 0 ((C.2 j).1 0)) 1 ((C.2 j).1 1)) 0 ((C.2 j).2 0)) 1 ((C.2 j).2 1)) 2 ((C.2 j).1 2)) 2 ((C.2 j).2 2)) 3 ((C.2 j).2 3)) 4 ((C.2 j).2 4)) := lnX_sA v7 (by rw [lnX_len hJ (by decide), lnX_len v7 (by decide)])
  rw [(gR (sA (sA (sA (sI (sA (sA (sI (sI (C.2 k) 0 ((C.2 j).1 0)) 1 ((C.2 j).1 1)) 0 ((C.2 j).2 0)) 1 ((C.2 j).2 1)) 2 ((C.2 j).1 2)) 2 ((C.2 j).2 2)) 3 ((C.2 j).2 3)) 4 ((C.2 j).2 4))).2.2.2.2.2.1, (gK (sA (sA (sA (sI (sA (sA (sI (sI (C.2 k) 0 ((C.2 j).1 0)) 1 ((C.2 j).1 1)) 0 ((C.2 j).2 0)) 1 ((C.2 j).2 1)) 2 ((C.2 j).1 2)) 2 ((C.2 j).2 2)) 3 ((C.2 j).2 3)) 4 ((C.2 j).2 4))).2.2.2.2.2.1, cpb (x := x) (V := (sA (sA (sA (sI (sA (sA (sI (sI (C.2 k) 0 ((C.2 j).1 0)) 1 ((C.2 j).1 1)) 0 ((C.2 j).2 0)) 1 ((C.2 j).2 1)) 2 ((C.2 j).1 2)) 2 ((C.2 j).2 2)) 3 ((C.2 j).2 3)) 4 ((C.2 j).2 4))) hj hk hjk (i := 5) (m := 8) (mI := 8) (p := wA x j + 6) (q := wA x k + 6) (by decide) rfl (by decide) (lnX_len hJ (by decide)) (lnX_len v8 (by decide)) rfl rfl]
  have v9 : lnX (sA (sA (sA (sA (sI (sA (sA (sI (sI (C.2 k) 0 ((C.2 j).1 0)) 1 ((C.2 j).1 1)) 0 ((C.2 j).2 0)) 1 ((C.2 j).2 1)) 2 ((C.2 j).1 2)) 2 ((C.2 j).2 2)) 3 ((C.2 j).2 3)) 4 ((C.2 j).2 4)) 5 ((C.2 j).2 5)) := lnX_sA v8 (by rw [lnX_len hJ (by decide), lnX_len v8 (by decide)])
  rw [(gI (sA (sA (sA (sA (sI (sA (sA (sI (sI (C.2 k) 0 ((C.2 j).1 0)) 1 ((C.2 j).1 1)) 0 ((C.2 j).2 0)) 1 ((C.2 j).2 1)) 2 ((C.2 j).1 2)) 2 ((C.2 j).2 2)) 3 ((C.2 j).2 3)) 4 ((C.2 j).2 4)) 5 ((C.2 j).2 5))).2.2.2, (pI (sA (sA (sA (sA (sI (sA (sA (sI (sI (C.2 k) 0 ((C.2 j).1 0)) 1 ((C.2 j).1 1)) 0 ((C.2 j).2 0)) 1 ((C.2 j).2 1)) 2 ((C.2 j).1 2)) 2 ((C.2 j).2 2)) 3 ((C.2 j).2 3)) 4 ((C.2 j).2 4)) 5 ((C.2 j).2 5))).2.2.2]
  have v10 : lnX (sI (sA (sA (sA (sA (sI (sA (sA (sI (sI (C.2 k) 0 ((C.2 j).1 0)) 1 ((C.2 j).1 1)) 0 ((C.2 j).2 0)) 1 ((C.2 j).2 1)) 2 ((C.2 j).1 2)) 2 ((C.2 j).2 2)) 3 ((C.2 j).2 3)) 4 ((C.2 j).2 4)) 5 ((C.2 j).2 5)) 3 ((C.2 j).1 3)) := lnX_sI v9
  rw [(gR (sI (sA (sA (sA (sA (sI (sA (sA (sI (sI (C.2 k) 0 ((C.2 j).1 0)) 1 ((C.2 j).1 1)) 0 ((C.2 j).2 0)) 1 ((C.2 j).2 1)) 2 ((C.2 j).1 2)) 2 ((C.2 j).2 2)) 3 ((C.2 j).2 3)) 4 ((C.2 j).2 4)) 5 ((C.2 j).2 5)) 3 ((C.2 j).1 3))).2.2.2.2.2.2.1, (gK (sI (sA (sA (sA (sA (sI (sA (sA (sI (sI (C.2 k) 0 ((C.2 j).1 0)) 1 ((C.2 j).1 1)) 0 ((C.2 j).2 0)) 1 ((C.2 j).2 1)) 2 ((C.2 j).1 2)) 2 ((C.2 j).2 2)) 3 ((C.2 j).2 3)) 4 ((C.2 j).2 4)) 5 ((C.2 j).2 5)) 3 ((C.2 j).1 3))).2.2.2.2.2.2.1, cpb (x := x) (V := (sI (sA (sA (sA (sA (sI (sA (sA (sI (sI (C.2 k) 0 ((C.2 j).1 0)) 1 ((C.2 j).1 1)) 0 ((C.2 j).2 0)) 1 ((C.2 j).2 1)) 2 ((C.2 j).1 2)) 2 ((C.2 j).2 2)) 3 ((C.2 j).2 3)) 4 ((C.2 j).2 4)) 5 ((C.2 j).2 5)) 3 ((C.2 j).1 3))) hj hk hjk (i := 6) (m := 10) (mI := 10) (p := wA x j + 7) (q := wA x k + 7) (by decide) rfl (by decide) (lnX_len hJ (by decide)) (lnX_len v10 (by decide)) rfl rfl]
  have v11 : lnX (sA (sI (sA (sA (sA (sA (sI (sA (sA (sI (sI (C.2 k) 0 ((C.2 j).1 0)) 1 ((C.2 j).1 1)) 0 ((C.2 j).2 0)) 1 ((C.2 j).2 1)) 2 ((C.2 j).1 2)) 2 ((C.2 j).2 2)) 3 ((C.2 j).2 3)) 4 ((C.2 j).2 4)) 5 ((C.2 j).2 5)) 3 ((C.2 j).1 3)) 6 ((C.2 j).2 6)) := lnX_sA v10 (by rw [lnX_len hJ (by decide), lnX_len v10 (by decide)])
  rw [(gR (sA (sI (sA (sA (sA (sA (sI (sA (sA (sI (sI (C.2 k) 0 ((C.2 j).1 0)) 1 ((C.2 j).1 1)) 0 ((C.2 j).2 0)) 1 ((C.2 j).2 1)) 2 ((C.2 j).1 2)) 2 ((C.2 j).2 2)) 3 ((C.2 j).2 3)) 4 ((C.2 j).2 4)) 5 ((C.2 j).2 5)) 3 ((C.2 j).1 3)) 6 ((C.2 j).2 6))).2.2.2.2.2.2.2.1, (gK (sA (sI (sA (sA (sA (sA (sI (sA (sA (sI (sI (C.2 k) 0 ((C.2 j).1 0)) 1 ((C.2 j).1 1)) 0 ((C.2 j).2 0)) 1 ((C.2 j).2 1)) 2 ((C.2 j).1 2)) 2 ((C.2 j).2 2)) 3 ((C.2 j).2 3)) 4 ((C.2 j).2 4)) 5 ((C.2 j).2 5)) 3 ((C.2 j).1 3)) 6 ((C.2 j).2 6))).2.2.2.2.2.2.2.1, cpb (x := x) (V := (sA (sI (sA (sA (sA (sA (sI (sA (sA (sI (sI (C.2 k) 0 ((C.2 j).1 0)) 1 ((C.2 j).1 1)) 0 ((C.2 j).2 0)) 1 ((C.2 j).2 1)) 2 ((C.2 j).1 2)) 2 ((C.2 j).2 2)) 3 ((C.2 j).2 3)) 4 ((C.2 j).2 4)) 5 ((C.2 j).2 5)) 3 ((C.2 j).1 3)) 6 ((C.2 j).2 6))) hj hk hjk (i := 7) (m := 10) (mI := 10) (p := wA x j + 8) (q := wA x k + 8) (by decide) rfl (by decide) (lnX_len hJ (by decide)) (lnX_len v11 (by decide)) rfl rfl]
  have v12 : lnX (sA (sA (sI (sA (sA (sA (sA (sI (sA (sA (sI (sI (C.2 k) 0 ((C.2 j).1 0)) 1 ((C.2 j).1 1)) 0 ((C.2 j).2 0)) 1 ((C.2 j).2 1)) 2 ((C.2 j).1 2)) 2 ((C.2 j).2 2)) 3 ((C.2 j).2 3)) 4 ((C.2 j).2 4)) 5 ((C.2 j).2 5)) 3 ((C.2 j).1 3)) 6 ((C.2 j).2 6)) 7 ((C.2 j).2 7)) := lnX_sA v11 (by rw [lnX_len hJ (by decide), lnX_len v11 (by decide)])
  rw [(gR (sA (sA (sI (sA (sA (sA (sA (sI (sA (sA (sI (sI (C.2 k) 0 ((C.2 j).1 0)) 1 ((C.2 j).1 1)) 0 ((C.2 j).2 0)) 1 ((C.2 j).2 1)) 2 ((C.2 j).1 2)) 2 ((C.2 j).2 2)) 3 ((C.2 j).2 3)) 4 ((C.2 j).2 4)) 5 ((C.2 j).2 5)) 3 ((C.2 j).1 3)) 6 ((C.2 j).2 6)) 7 ((C.2 j).2 7))).2.2.2.2.2.2.2.2.1, (gK (sA (sA (sI (sA (sA (sA (sA (sI (sA (sA (sI (sI (C.2 k) 0 ((C.2 j).1 0)) 1 ((C.2 j).1 1)) 0 ((C.2 j).2 0)) 1 ((C.2 j).2 1)) 2 ((C.2 j).1 2)) 2 ((C.2 j).2 2)) 3 ((C.2 j).2 3)) 4 ((C.2 j).2 4)) 5 ((C.2 j).2 5)) 3 ((C.2 j).1 3)) 6 ((C.2 j).2 6)) 7 ((C.2 j).2 7))).2.2.2.2.2.2.2.2.1, cpb (x := x) (V := (sA (sA (sI (sA (sA (sA (sA (sI (sA (sA (sI (sI (C.2 k) 0 ((C.2 j).1 0)) 1 ((C.2 j).1 1)) 0 ((C.2 j).2 0)) 1 ((C.2 j).2 1)) 2 ((C.2 j).1 2)) 2 ((C.2 j).2 2)) 3 ((C.2 j).2 3)) 4 ((C.2 j).2 4)) 5 ((C.2 j).2 5)) 3 ((C.2 j).1 3)) 6 ((C.2 j).2 6)) 7 ((C.2 j).2 7))) hj hk hjk (i := 8) (m := 10) (mI := 10) (p := wA x j + 9) (q := wA x k + 9) (by decide) rfl (by decide) (lnX_len hJ (by decide)) (lnX_len v12 (by decide)) rfl rfl]
  have v13 : lnX (sA (sA (sA (sI (sA (sA (sA (sA (sI (sA (sA (sI (sI (C.2 k) 0 ((C.2 j).1 0)) 1 ((C.2 j).1 1)) 0 ((C.2 j).2 0)) 1 ((C.2 j).2 1)) 2 ((C.2 j).1 2)) 2 ((C.2 j).2 2)) 3 ((C.2 j).2 3)) 4 ((C.2 j).2 4)) 5 ((C.2 j).2 5)) 3 ((C.2 j).1 3)) 6 ((C.2 j).2 6)) 7 ((C.2 j).2 7)) 8 ((C.2 j).2 8)) := lnX_sA v12 (by rw [lnX_len hJ (by decide), lnX_len v12 (by decide)])
  rw [(gR (sA (sA (sA (sI (sA (sA (sA (sA (sI (sA (sA (sI (sI (C.2 k) 0 ((C.2 j).1 0)) 1 ((C.2 j).1 1)) 0 ((C.2 j).2 0)) 1 ((C.2 j).2 1)) 2 ((C.2 j).1 2)) 2 ((C.2 j).2 2)) 3 ((C.2 j).2 3)) 4 ((C.2 j).2 4)) 5 ((C.2 j).2 5)) 3 ((C.2 j).1 3)) 6 ((C.2 j).2 6)) 7 ((C.2 j).2 7)) 8 ((C.2 j).2 8))).2.2.2.2.2.2.2.2.2.1, (gK (sA (sA (sA (sI (sA (sA (sA (sA (sI (sA (sA (sI (sI (C.2 k) 0 ((C.2 j).1 0)) 1 ((C.2 j).1 1)) 0 ((C.2 j).2 0)) 1 ((C.2 j).2 1)) 2 ((C.2 j).1 2)) 2 ((C.2 j).2 2)) 3 ((C.2 j).2 3)) 4 ((C.2 j).2 4)) 5 ((C.2 j).2 5)) 3 ((C.2 j).1 3)) 6 ((C.2 j).2 6)) 7 ((C.2 j).2 7)) 8 ((C.2 j).2 8))).2.2.2.2.2.2.2.2.2.1, cpb (x := x) (V := (sA (sA (sA (sI (sA (sA (sA (sA (sI (sA (sA (sI (sI (C.2 k) 0 ((C.2 j).1 0)) 1 ((C.2 j).1 1)) 0 ((C.2 j).2 0)) 1 ((C.2 j).2 1)) 2 ((C.2 j).1 2)) 2 ((C.2 j).2 2)) 3 ((C.2 j).2 3)) 4 ((C.2 j).2 4)) 5 ((C.2 j).2 5)) 3 ((C.2 j).1 3)) 6 ((C.2 j).2 6)) 7 ((C.2 j).2 7)) 8 ((C.2 j).2 8))) hj hk hjk (i := 9) (m := 10) (mI := 10) (p := wA x j + 10) (q := wA x k + 10) (by decide) rfl (by decide) (lnX_len hJ (by decide)) (lnX_len v13 (by decide)) rfl rfl]
  have v14 : lnX (sA (sA (sA (sA (sI (sA (sA (sA (sA (sI (sA (sA (sI (sI (C.2 k) 0 ((C.2 j).1 0)) 1 ((C.2 j).1 1)) 0 ((C.2 j).2 0)) 1 ((C.2 j).2 1)) 2 ((C.2 j).1 2)) 2 ((C.2 j).2 2)) 3 ((C.2 j).2 3)) 4 ((C.2 j).2 4)) 5 ((C.2 j).2 5)) 3 ((C.2 j).1 3)) 6 ((C.2 j).2 6)) 7 ((C.2 j).2 7)) 8 ((C.2 j).2 8)) 9 ((C.2 j).2 9)) := lnX_sA v13 (by rw [lnX_len hJ (by decide), lnX_len v13 (by decide)])
  rw [(gR (sA (sA (sA (sA (sI (sA (sA (sA (sA (sI (sA (sA (sI (sI (C.2 k) 0 ((C.2 j).1 0)) 1 ((C.2 j).1 1)) 0 ((C.2 j).2 0)) 1 ((C.2 j).2 1)) 2 ((C.2 j).1 2)) 2 ((C.2 j).2 2)) 3 ((C.2 j).2 3)) 4 ((C.2 j).2 4)) 5 ((C.2 j).2 5)) 3 ((C.2 j).1 3)) 6 ((C.2 j).2 6)) 7 ((C.2 j).2 7)) 8 ((C.2 j).2 8)) 9 ((C.2 j).2 9))).2.2.2.2.2.2.2.2.2.2.1, (gK (sA (sA (sA (sA (sI (sA (sA (sA (sA (sI (sA (sA (sI (sI (C.2 k) 0 ((C.2 j).1 0)) 1 ((C.2 j).1 1)) 0 ((C.2 j).2 0)) 1 ((C.2 j).2 1)) 2 ((C.2 j).1 2)) 2 ((C.2 j).2 2)) 3 ((C.2 j).2 3)) 4 ((C.2 j).2 4)) 5 ((C.2 j).2 5)) 3 ((C.2 j).1 3)) 6 ((C.2 j).2 6)) 7 ((C.2 j).2 7)) 8 ((C.2 j).2 8)) 9 ((C.2 j).2 9))).2.2.2.2.2.2.2.2.2.2.1, cpb (x := x) (V := (sA (sA (sA (sA (sI (sA (sA (sA (sA (sI (sA (sA (sI (sI (C.2 k) 0 ((C.2 j).1 0)) 1 ((C.2 j).1 1)) 0 ((C.2 j).2 0)) 1 ((C.2 j).2 1)) 2 ((C.2 j).1 2)) 2 ((C.2 j).2 2)) 3 ((C.2 j).2 3)) 4 ((C.2 j).2 4)) 5 ((C.2 j).2 5)) 3 ((C.2 j).1 3)) 6 ((C.2 j).2 6)) 7 ((C.2 j).2 7)) 8 ((C.2 j).2 8)) 9 ((C.2 j).2 9))) hj hk hjk (i := 10) (m := 10) (mI := 10) (p := wA x j + 11) (q := wA x k + 11) (by decide) rfl (by decide) (lnX_len hJ (by decide)) (lnX_len v14 (by decide)) rfl rfl]
  have v15 : lnX (sA (sA (sA (sA (sA (sI (sA (sA (sA (sA (sI (sA (sA (sI (sI (C.2 k) 0 ((C.2 j).1 0)) 1 ((C.2 j).1 1)) 0 ((C.2 j).2 0)) 1 ((C.2 j).2 1)) 2 ((C.2 j).1 2)) 2 ((C.2 j).2 2)) 3 ((C.2 j).2 3)) 4 ((C.2 j).2 4)) 5 ((C.2 j).2 5)) 3 ((C.2 j).1 3)) 6 ((C.2 j).2 6)) 7 ((C.2 j).2 7)) 8 ((C.2 j).2 8)) 9 ((C.2 j).2 9)) 10 ((C.2 j).2 10)) := lnX_sA v14 (by rw [lnX_len hJ (by decide), lnX_len v14 (by decide)])
  rw [(gR (sA (sA (sA (sA (sA (sI (sA (sA (sA (sA (sI (sA (sA (sI (sI (C.2 k) 0 ((C.2 j).1 0)) 1 ((C.2 j).1 1)) 0 ((C.2 j).2 0)) 1 ((C.2 j).2 1)) 2 ((C.2 j).1 2)) 2 ((C.2 j).2 2)) 3 ((C.2 j).2 3)) 4 ((C.2 j).2 4)) 5 ((C.2 j).2 5)) 3 ((C.2 j).1 3)) 6 ((C.2 j).2 6)) 7 ((C.2 j).2 7)) 8 ((C.2 j).2 8)) 9 ((C.2 j).2 9)) 10 ((C.2 j).2 10))).2.2.2.2.2.2.2.2.2.2.2, (gK (sA (sA (sA (sA (sA (sI (sA (sA (sA (sA (sI (sA (sA (sI (sI (C.2 k) 0 ((C.2 j).1 0)) 1 ((C.2 j).1 1)) 0 ((C.2 j).2 0)) 1 ((C.2 j).2 1)) 2 ((C.2 j).1 2)) 2 ((C.2 j).2 2)) 3 ((C.2 j).2 3)) 4 ((C.2 j).2 4)) 5 ((C.2 j).2 5)) 3 ((C.2 j).1 3)) 6 ((C.2 j).2 6)) 7 ((C.2 j).2 7)) 8 ((C.2 j).2 8)) 9 ((C.2 j).2 9)) 10 ((C.2 j).2 10))).2.2.2.2.2.2.2.2.2.2.2, cpb (x := x) (V := (sA (sA (sA (sA (sA (sI (sA (sA (sA (sA (sI (sA (sA (sI (sI (C.2 k) 0 ((C.2 j).1 0)) 1 ((C.2 j).1 1)) 0 ((C.2 j).2 0)) 1 ((C.2 j).2 1)) 2 ((C.2 j).1 2)) 2 ((C.2 j).2 2)) 3 ((C.2 j).2 3)) 4 ((C.2 j).2 4)) 5 ((C.2 j).2 5)) 3 ((C.2 j).1 3)) 6 ((C.2 j).2 6)) 7 ((C.2 j).2 7)) 8 ((C.2 j).2 8)) 9 ((C.2 j).2 9)) 10 ((C.2 j).2 10))) hj hk hjk (i := 11) (m := 10) (mI := 10) (p := wA x j + 12) (q := wA x k + 12) (by decide) rfl (by decide) (lnX_len hJ (by decide)) (lnX_len v15 (by decide)) rfl rfl]
  have v16 : lnX (sA (sA (sA (sA (sA (sA (sI (sA (sA (sA (sA (sI (sA (sA (sI (sI (C.2 k) 0 ((C.2 j).1 0)) 1 ((C.2 j).1 1)) 0 ((C.2 j).2 0)) 1 ((C.2 j).2 1)) 2 ((C.2 j).1 2)) 2 ((C.2 j).2 2)) 3 ((C.2 j).2 3)) 4 ((C.2 j).2 4)) 5 ((C.2 j).2 5)) 3 ((C.2 j).1 3)) 6 ((C.2 j).2 6)) 7 ((C.2 j).2 7)) 8 ((C.2 j).2 8)) 9 ((C.2 j).2 9)) 10 ((C.2 j).2 10)) 11 ((C.2 j).2 11)) := lnX_sA v15 (by rw [lnX_len hJ (by decide), lnX_len v15 (by decide)])
  refine congrArg some (congrArg (Prod.mk none) ?_)
  rw [← tq_W hk, ← tq_W hk]
  refine pW_ext (fun i hi => ?_) (fun i hi => ?_)
  · match i, hi with
    | 0, _ => rfl
    | 1, _ => rfl
    | 2, _ => rfl
    | 3, _ => rfl
  · match i, hi with
    | 0, _ => rfl
    | 1, _ => rfl
    | 2, _ => rfl
    | 3, _ => rfl
    | 4, _ => rfl
    | 5, _ => rfl
    | 6, _ => rfl
    | 7, _ => rfl
    | 8, _ => rfl
    | 9, _ => rfl
    | 10, _ => rfl
    | 11, _ => rfl
end BEC
