/-! The law's loop: ring. -/
section JX9
variable (xs : List Int32) (d : Nat) {B : ia_H} {x a b : Nat} {C : aC} {M : aG} {σ : Bool} {p n r t t0 q : Nat} {w : Int64}
theorem bo_lald (hx : x + 158 ≤ a) (hb : a + 42 ≤ b) (hB : B.2.2 b = .inr (.inl [w])) : ia_lald (bothH B x a C M) b 0 = some w := by
  unfold bothH pM
  rw [th_lald (Or.inr hb)]
  unfold tot
  rw [th_lald (Or.inr (by omega))]
  unfold ia_lald
  rw [hB]
  rfl
theorem bo_last (hx : x + 158 ≤ a) (hb : a + 42 ≤ b) (hB : B.2.2 b = .inr (.inl [w])) (v : Int64) (f : ia_H → Option ia_R) : (ia_last (tot (pM B a M) x C) b 0 v).bind f = f (bothH (ia_up B b (.inr (.inl [v]))) x a C M) := by
  have e : ia_last B b 0 v = some (ia_up B b (.inr (.inl [v]))) := by
    unfold ia_last
    rw [hB]
    rfl
  unfold tot pM
  rw [th_last (Or.inr (by omega)), th_last (Or.inr hb), e]
  show f (tot (pM (ia_up B b (.inr (.inl [v]))) a M) x C) = _
  rw [both_c hx]
theorem rg_in {v1 v2 : Int32} (e1 : rgC r v1 v2 = 0) : ¬ v1 < 0 ∧ v1 < nI r ∧ ¬ v2 < 0 ∧ ¬ 5 < v2 := by
  unfold rgC at e1
  by_cases c1 : inI v1 r = 0
  · rw [if_pos c1] at e1; exact absurd e1 (by decide)
  · rw [if_neg c1] at e1
    unfold inI at c1
    by_cases b1 : v1 < 0
    · rw [if_pos b1] at c1; exact absurd rfl c1
    · rw [if_neg b1] at c1
      by_cases b2 : v1 < nI r
      · by_cases b3 : v2 < 0
        · rw [if_pos b3] at e1; exact absurd e1 (by decide)
        · rw [if_neg b3] at e1
          by_cases b4 : 5 < v2
          · rw [if_pos b4] at e1; exact absurd e1 (by decide)
          · exact ⟨b1, b2, b3, b4⟩
      · rw [if_neg b2] at c1; exact absurd rfl c1
theorem to5 {v : Int32} (h0 : ¬ v < 0) (h5 : ¬ 5 < v) : v = 0 ∨ v = 1 ∨ v = 2 ∨ v = 3 ∨ v = 4 ∨ v = 5 := by
  obtain ⟨j, hj, ej⟩ := nI_of h0
  have : j ≤ 5 := by
    rcases Nat.lt_or_ge 5 j with z | z
    · exact absurd (by rw [ej]; exact nI_lt z hj) h5
    · exact z
  have k : ∀ j, j < 6 → nI j = 0 ∨ nI j = 1 ∨ nI j = 2 ∨ nI j = 3 ∨ nI j = 4 ∨ nI j = 5 := by decide
  rw [ej]
  exact k j (by omega)
theorem lr_in (hR : Rp x C M σ p n r t t0 q) (hx : x + 158 ≤ a) (hb : a + 42 ≤ b) (hB : B.2.2 b = .inr (.inl [w])) {c : Nat} (hc : c < r) (v2 : Int32) (e1 : rgC r (nI c) v2 = 0) : ia_lring x (nI c) v2 b (bothH B x a C M) = some (some (.int 0), bothH (ia_up B b (.inr (.inl [(rgV (C.2 1) c v2).toInt64]))) x a C M) := by
  obtain ⟨b1, b2, b3, b4⟩ := rg_in e1
  have hq := hR.1
  have hW := hR.2.2.1.1.1
  have hr10 := hW.2.2.2.1
  have u : ∀ k, 6 ≤ k → k < 12 → rd ((C.2 1).2 k) (nI c) = some (fA (C.2 1) k c) := fun k h1 h2 => rdA (by rw [hW.2.2.2.2.2.2 k h1 h2]; omega) (by rw [hW.2.2.2.2.2.2 k h1 h2]; omega)
  rw [both_c hx]
  unfold ia_lring
  simp only [↓tN_Rb hq, ↓tW_Ib (show 1 < 7 by decide), hW.2.1, ↓if_n b1, ↓if_p b2, ↓tW_Rb (show 1 < 7 by decide), ↓tW_ldb (show 1 < 7 by decide), ↓bs (u 6 (by decide) (by decide)), ↓bs (u 7 (by decide) (by decide)), ↓bs (u 8 (by decide) (by decide)), ↓bs (u 9 (by decide) (by decide)), ↓bs (u 10 (by decide) (by decide)), ↓bs (u 11 (by decide) (by decide)), ↓bo_last hx hb hB]
  unfold rgV
  rcases to5 b3 b4 with h | h | h | h | h | h <;> subst h <;> rfl
theorem lr_out (hR : Rp x C M σ p n r t t0 q) (hx : x + 158 ≤ a) (hb : a + 42 ≤ b) (hB : B.2.2 b = .inr (.inl [w])) (v1 v2 : Int32) (e1 : ¬ rgC r v1 v2 = 0) : ia_lring x v1 v2 b (bothH B x a C M) = some (some (.int (rgC r v1 v2)), bothH (B.1 + 1, B.2.1 + 6, B.2.2) x a C M) := by
  have hq := hR.1
  have hW := hR.2.2.1.1.1
  rw [both_c hx, both_c hx]
  unfold ia_lring
  simp only [↓tN_Rb hq, ↓tW_Ib (show 1 < 7 by decide), hW.2.1]
  unfold rgC at e1 ⊢
  unfold inI at e1 ⊢
  by_cases c1 : v1 < 0
  · rw [if_pos c1, if_pos c1, if_pos rfl]
    rfl
  · rw [if_neg c1] at e1
    rw [if_neg c1, if_neg c1]
    by_cases c2 : v1 < nI r
    · rw [if_pos c2] at e1
      rw [if_pos c2, if_pos c2]
      rw [if_neg (show ¬ (1 : Int32) = 0 by decide)] at e1 ⊢
      have ne : ∀ k : Int32, ¬ k < 0 → ¬ 5 < k → ¬ v2 = k := fun k h0 h5 z => by
        subst z
        rw [if_neg h0, if_neg h5] at e1
        exact e1 rfl
      have two : (if v2 < 0 then (2 : Int32) else if 5 < v2 then 2 else 0) = 2 := by
        by_cases z1 : v2 < 0
        · rw [if_pos z1]
        · rw [if_neg z1] at e1 ⊢
          by_cases z2 : 5 < v2
          · rw [if_pos z2]
          · rw [if_neg z2] at e1
            exact absurd rfl e1
      rw [two, if_neg (ne 0 (by decide) (by decide)), if_neg (ne 1 (by decide) (by decide)), if_neg (ne 2 (by decide) (by decide)), if_neg (ne 3 (by decide) (by decide)), if_neg (ne 4 (by decide) (by decide)), if_neg (ne 5 (by decide) (by decide))]
      rfl
    · rw [if_neg c2, if_neg c2, if_pos rfl]
      rfl
/-- what lies beside class and reference: the law's own row -/
def obB (b : Nat) (B : ia_H) : Prop := ∃ w, B.2.2 b = .inr (.inl [w])
variable {N Z : ia_H → Option ia_R} {R : Option ia_R → Prop} {r1 r2 : Option Int32} {y1 y2 : Int32}
theorem ls_ring (hR0 : Rl x C M) (hx : x + 158 ≤ a) (hb : a + 42 ≤ b) (hB : obB b B) (e1 : r1 = some y1) (e2 : r2 = some y2) (hN : ∀ B' C' M', obB b B' → B'.1 ≤ B.1 + 1 → B'.2.1 ≤ B.2.1 + 6 → Rl x C' M' → R (N (bothH B' x a C' M'))) : R (r1.bind fun z1 => r2.bind fun z2 => ia_cI (ia_spec 3 [.ref x, .int z1, .int z2, .ref b] (bothH B x a C M)) fun x37 h36 => r1.bind fun w1 => r2.bind fun w2 => if ia_cls h36 a = 10 then ia_cI (ia_cal xs (d + 20) im_Mod_ring [.ref a, .int w1, .int w2] h36) (fun x41 h40 => if ia_cls h40 a = 10 then ia_cI (ia_cal xs (d + 20) im_Mod_thrown [.ref a] h40) (fun x43 h42 => if x43 = x37 then (if x37 = (0 : Int32) then ((ia_lald h42 b (0 : Int32)).bind fun l44 => if (lg_cmp l44 (Int32.toInt64 x41) : Int32) = 0 then N h42 else Z h42) else N h42) else Z h42) else none) else none) := by
  subst e1 e2
  obtain ⟨σ, p, n, r, t, t0, q, hR⟩ := hR0
  obtain ⟨w, hw⟩ := hB
  show R (ia_cI (ia_lring x y1 y2 b (bothH B x a C M)) fun x37 h36 => if ia_cls h36 a = 10 then ia_cI (ia_cal xs (d + 20) im_Mod_ring [.ref a, .int y1, .int y2] h36) (fun x41 h40 => if ia_cls h40 a = 10 then ia_cI (ia_cal xs (d + 20) im_Mod_thrown [.ref a] h40) (fun x43 h42 => if x43 = x37 then (if x37 = (0 : Int32) then ((ia_lald h42 b (0 : Int32)).bind fun l44 => if (lg_cmp l44 (Int32.toInt64 x41) : Int32) = 0 then N h42 else Z h42) else N h42) else Z h42) else none) else none)
  by_cases c : rgC r y1 y2 = 0
  · obtain ⟨b1, b2, b3, b4⟩ := rg_in c
    obtain ⟨j, hj, ej⟩ := nI_of b1
    subst ej
    have hr10 := hR.2.2.1.1.1.2.2.2.1
    have hjr : j < r := (nI_ltI hj (by omega)).mp b2
    generalize hv : rgV (C.2 1) j y2 = v
    have hB' : obB b (ia_up B b (.inr (.inl [v.toInt64]))) := ⟨v.toInt64, by show (if b = b then _ else _) = _; rw [if_pos rfl]⟩
    obtain ⟨f1, f2, f3⟩ := rg_ref xs (d + 18) (h := tot (ia_up B b (.inr (.inl [v.toInt64]))) x C) (a := a) hR (nI j) y2
    have f2' : ia_cal xs (d + 20) im_Mod_ring [.ref a, .int (nI j), .int y2] (bothH (ia_up B b (.inr (.inl [v.toInt64]))) x a C M) = some (some (.int (rgV (C.2 1) j y2)), bothH (ia_up B b (.inr (.inl [v.toInt64]))) x a C (gI M 0 0)) := f2 j hjr rfl c
    have th : ia_cal xs (d + 20) im_Mod_thrown [.ref a] (bothH (ia_up B b (.inr (.inl [v.toInt64]))) x a C (gI M 0 0)) = some (some (.int ((gI M 0 0).1 0)), bothH (ia_up B b (.inr (.inl [v.toInt64]))) x a C (gI M 0 0)) := p_thrown xs (d + 19)
    rw [show (gI M 0 0).1 0 = 0 from gI_s] at th
    rw [c] at f1
    rw [cI_of (lr_in hR hx hb hw hjr y2 c), hv]
    rw [hv] at f2'
    rw [if_pos both_1]
    rw [cI_of f2', if_pos both_1, cI_of th, if_pos rfl, if_pos rfl]
    have l0 : ia_lald (bothH (ia_up B b (.inr (.inl [v.toInt64]))) x a C (gI M 0 0)) b 0 = some v.toInt64 := bo_lald hx hb (by show (if b = b then _ else _) = _; rw [if_pos rfl])
    rw [l0]
    show R (if lg_cmp v.toInt64 v.toInt64 = 0 then _ else _)
    rw [if_pos (show lg_cmp v.toInt64 v.toInt64 = 0 by unfold lg_cmp; simp)]
    exact hN _ _ _ hB' (Nat.le_succ _) (Nat.le_add_right _ _) f1
  · obtain ⟨f1, f2, f3⟩ := rg_ref xs (d + 18) (h := tot (B.1 + 1, B.2.1 + 6, B.2.2) x C) (a := a) hR y1 y2
    have f3' : ia_cal xs (d + 20) im_Mod_ring [.ref a, .int y1, .int y2] (bothH (B.1 + 1, B.2.1 + 6, B.2.2) x a C M) = some (some (.int 0), bothH (B.1 + 1, B.2.1 + 6, B.2.2) x a C (gI M 0 (rgC r y1 y2))) := f3 c
    have th : ia_cal xs (d + 20) im_Mod_thrown [.ref a] (bothH (B.1 + 1, B.2.1 + 6, B.2.2) x a C (gI M 0 (rgC r y1 y2))) = some (some (.int ((gI M 0 (rgC r y1 y2)).1 0)), bothH (B.1 + 1, B.2.1 + 6, B.2.2) x a C (gI M 0 (rgC r y1 y2))) := p_thrown xs (d + 19)
    rw [show (gI M 0 (rgC r y1 y2)).1 0 = rgC r y1 y2 from gI_s] at th
    rw [cI_of (lr_out hR hx hb hw y1 y2 c), if_pos both_1]
    rw [cI_of f3', if_pos both_1, cI_of th, if_pos rfl, if_neg c]
    exact hN (B.1 + 1, B.2.1 + 6, B.2.2) C _ ⟨w, hw⟩ (Nat.le_refl _) (Nat.le_refl _) f1
end JX9
