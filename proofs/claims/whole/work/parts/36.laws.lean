/-! Setters, and the laws' rows worked out. -/
section GS
variable {X : aG} {k j : Nat}
theorem gI_s {v : Int32} : (gI X k v).1 k = v := up_s
theorem gI_n {v : Int32} (h : j ≠ k) : (gI X k v).1 j = X.1 j := up_n h
theorem gI_2 {v : Int32} : (gI X k v).2 = X.2 := rfl
theorem gI_I {v w : Int32} : gI (gI X k v) k w = gI X k w := Prod.ext up_u rfl
theorem gA_1 {l : List Int32} : (gA X k l).1 = X.1 := rfl
theorem gA_s {l : List Int32} : (gA X k l).2.1 k = l := up_s
theorem gA_n {l : List Int32} (h : j ≠ k) : (gA X k l).2.1 j = X.2.1 j := up_n h
theorem gA_2 {l : List Int32} : (gA X k l).2.2 = X.2.2 := rfl
theorem gA_A {l m : List Int32} : gA (gA X k l) k m = gA X k m := Prod.ext rfl (Prod.ext up_u rfl)
theorem gA_id : gA X k (X.2.1 k) = X := Prod.ext rfl (Prod.ext up_id rfl)
theorem gI_id : gI X k (X.1 k) = X := Prod.ext up_id rfl
theorem gJ_1 {v : Int64} : (gJ X k v).1 = X.1 := rfl
theorem gJ_2 {v : Int64} : (gJ X k v).2.1 = X.2.1 := rfl
theorem gJ_s {v : Int64} : (gJ X k v).2.2.1 k = v := up_s
theorem gJ_3 {v : Int64} : (gJ X k v).2.2.2 = X.2.2.2 := rfl
theorem gB_1 {l : List Int64} : (gB X k l).1 = X.1 := rfl
theorem gB_2 {l : List Int64} : (gB X k l).2.1 = X.2.1 := rfl
theorem gB_3 {l : List Int64} : (gB X k l).2.2.1 = X.2.2.1 := rfl
theorem gB_s {l : List Int64} : (gB X k l).2.2.2.1 k = l := up_s
theorem gB_n {l : List Int64} (h : j ≠ k) : (gB X k l).2.2.2.1 j = X.2.2.2.1 j := up_n h
theorem gB_5 {l : List Int64} : (gB X k l).2.2.2.2 = X.2.2.2.2 := rfl
theorem gB_B {l m : List Int64} : gB (gB X k l) k m = gB X k m := Prod.ext rfl (Prod.ext rfl (Prod.ext rfl (Prod.ext up_u rfl)))
theorem gB_id : gB X k (X.2.2.2.1 k) = X := Prod.ext rfl (Prod.ext rfl (Prod.ext rfl (Prod.ext up_id rfl)))
theorem gR_1 {v : Nat} : (gR X k v).1 = X.1 := rfl
theorem gR_2 {v : Nat} : (gR X k v).2.1 = X.2.1 := rfl
theorem gR_3 {v : Nat} : (gR X k v).2.2.1 = X.2.2.1 := rfl
theorem gR_4 {v : Nat} : (gR X k v).2.2.2.1 = X.2.2.2.1 := rfl
theorem gR_s {v : Nat} : (gR X k v).2.2.2.2 k = v := up_s
theorem gR_n {v : Nat} (h : j ≠ k) : (gR X k v).2.2.2.2 j = X.2.2.2.2 j := up_n h
end GS
theorem rdL {l : List Int64} {i : Nat} (hi : i < l.length) (h31 : l.length < 2 ^ 31) : rd l (nI i) = some (l.getD i 0) := by
  rw [rd_nI (by omega), List.getD_eq_getElem?_getD, List.getElem?_eq_getElem hi]
  rfl
/-- one token more -/
def tok1 (ms : List Int64) (k n : Int32) (st : List Int64) : Option (List Int64) :=
  if k = 3 then some (n.toInt64 :: st) else if ¬ k < 15 ∧ ¬ 21 < k then some (ms.getD (k - 15).toNatClampNeg 0 :: st)
  else if k = 24 then (match st with | y :: r => some ((if y = 0 then 1 else 0) :: r) | [] => none)
  else match st with
    | y :: x :: r => if 1000000000000 < jnV k x y ∨ jnV k x y < -1000000000000 then none else some (jnV k x y :: r)
    | _ => none
/-- q tokens from place i on -/
def evF (kf nf : Nat → Int32) (ms : List Int64) : Nat → Nat → List Int64 → Option Int64
  | 0, _, st => some (st.headD 0)
  | q + 1, i, st => match tok1 ms (kf i) (nf i) st with
    | none => none
    | some st' => evF kf nf ms q (i + 1) st'
def wfR (kf : Nat → Int32) : Nat → Nat → Nat → Prop
  | 0, _, t => t = 1
  | q + 1, i, t => if kf i = 3 ∨ (¬ kf i < 15 ∧ ¬ 21 < kf i) then wfR kf q (i + 1) (t + 1) else if kf i = 24 then 1 ≤ t ∧ wfR kf q (i + 1) t else 2 ≤ t ∧ wfR kf q (i + 1) (t - 1)
def ag (vs : List Int64) : List Int64 → Prop
  | [] => True
  | v :: r => vs.getD r.length 0 = v ∧ ag vs r
theorem ag_set {vs : List Int64} {p : Nat} {v : Int64} (hp : p < vs.length) : ∀ {st : List Int64}, st.length ≤ p → ag vs st → ag (vs.set p v) st
  | [], _, _ => trivial
  | w :: r, h, hg => by
    have hl : (w :: r).length = r.length + 1 := rfl
    refine ⟨?_, ag_set hp (by omega) hg.2⟩
    rw [ia_set_getD hp, if_neg (by omega)]
    exact hg.1
theorem ag_push {vs st : List Int64} {v : Int64} (hp : st.length < vs.length) (hg : ag vs st) : ag (vs.set st.length v) (v :: st) :=
  ⟨by rw [ia_set_getD hp, if_pos rfl], ag_set hp (Nat.le_refl _) hg⟩
theorem mean_of {k : Int32} (h1 : ¬ k < 15) (h2 : ¬ 21 < k) : ∃ j : Nat, j < 7 ∧ k = nI (15 + j) ∧ k - 15 = nI j := by
  rw [Int32.lt_iff_toInt_lt] at h1 h2
  have e1 : (15 : Int32).toInt = 15 := rfl
  have e2 : (21 : Int32).toInt = 21 := rfl
  rw [e1] at h1
  rw [e2] at h2
  have hk : k = nI (15 + (k.toInt - 15).toNat) := by
    apply Int32.toInt_inj.mp
    rw [nI_toInt (by omega)]
    omega
  refine ⟨(k.toInt - 15).toNat, by omega, hk, ?_⟩
  generalize (k.toInt - 15).toNat = j at hk
  subst hk
  have : (15 : Int32) = nI 15 := rfl
  rw [this, pk_sub (by omega), Nat.add_sub_cancel_left]
section KL
variable (xs : List Int32) (d : Nat) (h : ia_H) (a : Nat) (L : aG)
theorem k_isMeaning (k : Int32) (g : ia_H) : ia_cal xs (d + 1) im_Laws_isMeaning [.int k] g = some (some (.int (if ¬ k < 15 ∧ ¬ 21 < k then 1 else 0)), g) := by
  rw [iu_Laws_isMeaning, iq_Laws_isMeaning_0]
  by_cases h1 : k < 15 <;> by_cases h2 : 21 < k <;> simp [h1, h2]
theorem work_lp (hw : wfL L) {k e : Nat} (hk : k < 3) (he : fG L 3 k = nI e) (he64 : e ≤ 64) : ∀ q i st vs n, i + q = e → st.length + q ≤ 64 → vs.length = 64 → ag vs st → wfR (fG L 0) q i st.length → 3 * q + 2 ≤ n →
    ∃ vs', vs'.length = 64 ∧ ia_qr xs (ia_cal xs (d + 1)) im_Laws_work n 13 [.ref a, .int (nI k), .int (nI st.length), .int (nI i), .float 0] [] (pL h a (gB L 1 vs)) = some (some (.long ((evF (fG L 0) (fG L 1) (L.2.2.2.1 0) q i st).getD (-9223372036854775808))), pL h a (gB L 1 vs')) := by
  obtain ⟨l0, l1, l2, l3, m0, m1⟩ := hw
  have r3 : rd (L.2.1 3) (nI k) = some (nI e) := by rw [rdG (by omega) (by omega), he]
  intro q
  induction q with
  | zero =>
    intro i st vs n hi hst hvs hag hwf hn
    obtain ⟨m, rfl⟩ : ∃ m, n = m + 1 + 1 := ⟨n - 2, by omega⟩
    refine ⟨vs, hvs, ?_⟩
    rw [iq_Laws_work_13]
    simp only [pL_R, pL_ld, Option.bind_some, gB_2, r3]
    rw [if_neg (nI_nlt (by omega) (by omega)), iq_Laws_work_123]
    have hl : st.length = 1 := hwf
    obtain ⟨v, rfl⟩ : ∃ v, st = [v] := by
      match st, hl with
      | [v], _ => exact ⟨v, rfl⟩
    have r0 : rd vs (0 : Int32) = some v := by
      rw [show (0 : Int32) = nI 0 from rfl, rdL (by omega) (by omega)]
      exact congrArg some hag.1
    simp only [pL_R, pL_ll, Option.bind_some, gB_s, r0]
    rfl
  | succ q ih =>
    intro i st vs n hi hst hvs hag hwf hn
    obtain ⟨m, rfl⟩ : ∃ m, n = m + 1 + 1 + 1 := ⟨n - 3, by omega⟩
    have r0 : rd (L.2.1 0) (nI i) = some (fG L 0 i) := rdG (by omega) (by omega)
    have r1 : rd (L.2.1 1) (nI i) = some (fG L 1 i) := rdG (by omega) (by omega)
    rw [iq_Laws_work_13]
    simp only [pL_R, pL_ld, pL_ll, pL_ls, Option.bind_some, gB_2, r3, r0, k_isMeaning, ia_cI, gB_s]
    rw [if_pos (nI_lt (by omega) (by omega)), if_pos (show nI i < (64 : Int32) from nI_lt (b := 64) (by omega) (by omega))]
    rw [evF, wfR] at *
    by_cases h3 : fG L 0 i = 3
    · rw [if_pos (Or.inl h3)] at hwf
      rw [if_pos h3, iq_Laws_work_33]
      simp only [pL_R, pL_ld, Option.bind_some, gB_2, r1]
      rw [if_pos h3, iq_Laws_work_51]
      simp only [pL_ls, gB_s]
      rw [wr_nI (by omega) (by omega)]
      simp only [Option.map_some, Option.bind_some, gB_B, nI_1]
      rw [show tok1 (L.2.2.2.1 0) (fG L 0 i) (fG L 1 i) st = some ((fG L 1 i).toInt64 :: st) from by unfold tok1; rw [if_pos h3]]
      exact ih (i + 1) ((fG L 1 i).toInt64 :: st) (vs.set st.length (fG L 1 i).toInt64) m (by omega) (by simp only [List.length_cons]; omega) (by rw [List.length_set]; exact hvs) (ag_push (by omega) hag) hwf (by omega)
    · by_cases hm : ¬ fG L 0 i < 15 ∧ ¬ 21 < fG L 0 i
      · rw [if_pos (Or.inr hm)] at hwf
        obtain ⟨j, hj, hj1, hj2⟩ := mean_of hm.1 hm.2
        have rm : rd (L.2.2.2.1 0) (fG L 0 i - 15) = some ((L.2.2.2.1 0).getD j 0) := by rw [hj2, rdL (by omega) (by omega)]
        rw [if_neg h3]
        simp only [if_pos hm]
        rw [if_neg (by decide), iq_Laws_work_33]
        simp only [pL_R, pL_ld, pL_ll, Option.bind_some, gB_2, gB_n (show (0 : Nat) ≠ 1 by decide), rm]
        rw [if_neg h3, iq_Laws_work_51]
        simp only [pL_ls, gB_s]
        rw [wr_nI (by omega) (by omega)]
        simp only [Option.map_some, Option.bind_some, gB_B, nI_1]
        rw [show tok1 (L.2.2.2.1 0) (fG L 0 i) (fG L 1 i) st = some ((L.2.2.2.1 0).getD j 0 :: st) from by unfold tok1; rw [if_neg h3, if_pos hm, hj2, nI_clamp (by omega)]]
        exact ih (i + 1) ((L.2.2.2.1 0).getD j 0 :: st) (vs.set st.length ((L.2.2.2.1 0).getD j 0)) m (by omega) (by simp only [List.length_cons]; omega) (by rw [List.length_set]; exact hvs) (ag_push (by omega) hag) hwf (by omega)
      · rw [if_neg (by intro q; rcases q with q | q; exact h3 q; exact hm q)] at hwf
        rw [if_neg h3]
        simp only [if_neg hm]
        rw [if_pos (by decide)]
        by_cases h24 : fG L 0 i = 24
        · rw [if_pos h24] at hwf
          match st, hst, hag, hwf with
          | y :: r, hst, hag, hwf =>
            have hl : (y :: r).length = r.length + 1 := rfl
            rw [hl] at hst
            rw [if_pos h24, hl, if_neg (show ¬ nI (r.length + 1) < (1 : Int32) from nI_nlt (b := 1) (by omega) (by omega)), nI_pred, rdL (by omega) (by omega), hag.1, wr_nI (by omega) (by omega), wr_nI (by omega) (by omega)]
            simp only [Option.map_some, Option.bind_some, gB_B, nI_1, lg0]
            rw [show tok1 (L.2.2.2.1 0) (fG L 0 i) (fG L 1 i) (y :: r) = some ((if y = 0 then 1 else 0) :: r) from by unfold tok1; rw [if_neg h3, if_neg hm, if_pos h24]]
            have key : ∀ v : Int64, ∃ vs', vs'.length = 64 ∧ ia_qr xs (ia_cal xs (d + 1)) im_Laws_work (m + 1 + 1) 13 [.ref a, .int (nI k), .int (nI (r.length + 1)), .int (nI (i + 1)), .float 0] [] (pL h a (gB L 1 (vs.set r.length v))) = some (some (.long ((evF (fG L 0) (fG L 1) (L.2.2.2.1 0) q (i + 1) (v :: r)).getD (-9223372036854775808))), pL h a (gB L 1 vs')) := fun v =>
              ih (i + 1) (v :: r) (vs.set r.length v) (m + 1 + 1) (by omega) (by simp only [List.length_cons]; omega) (by rw [List.length_set]; exact hvs) (ag_push (by omega) hag.2) hwf.2 (by omega)
            by_cases hy : y = 0
            · simp only [hy, if_true]
              exact key 1
            · simp only [hy, if_false]
              exact key 0
        · rw [if_neg h24] at hwf
          rw [if_neg h24, iq_Laws_work_79]
          match st, hst, hag, hwf with
          | y :: x :: r, hst, hag, hwf =>
            have hl : (y :: x :: r).length = r.length + 2 := rfl
            rw [hl] at hst hwf
            rw [hl, if_neg (show ¬ nI (r.length + 2) < (2 : Int32) from nI_nlt (b := 2) (by omega) (by omega))]
            have e1 : nI (r.length + 2) + (-1) = nI (r.length + 1) := pk_m1 _
            have e2 : nI (r.length + 1) - 1 = nI r.length := nI_pred _
            have g1 : vs.getD (r.length + 1) 0 = y := hag.1
            have g2 : vs.getD r.length 0 = x := hag.2.1
            have gs : (vs.set r.length (jnV (fG L 0 i) x y)).getD r.length 0 = jnV (fG L 0 i) x y := by rw [ia_set_getD (by omega), if_pos rfl]
            simp only [e1, e2, pL_R, pL_ll, Option.bind_some, gB_s, rdL (show r.length < vs.length by omega) (by omega), rdL (show r.length + 1 < vs.length by omega) (by omega), g1, g2, k_join, ia_cL, pL_ls, wr_nI (show r.length < 2 ^ 31 by omega) (show r.length < vs.length by omega), Option.map_some, gB_B, rdL (show r.length < (vs.set r.length (jnV (fG L 0 i) x y)).length by rw [List.length_set]; omega) (by rw [List.length_set]; omega), gs, lgp, lgn, nI_1]
            have et : tok1 (L.2.2.2.1 0) (fG L 0 i) (fG L 1 i) (y :: x :: r) = if 1000000000000 < jnV (fG L 0 i) x y ∨ jnV (fG L 0 i) x y < -1000000000000 then none else some (jnV (fG L 0 i) x y :: r) := by unfold tok1; rw [if_neg h3, if_neg hm, if_neg h24]
            rw [et]
            by_cases c1 : 1000000000000 < jnV (fG L 0 i) x y
            · rw [if_pos c1, if_pos (Or.inl c1)]
              exact ⟨_, by rw [List.length_set]; exact hvs, rfl⟩
            · by_cases c2 : jnV (fG L 0 i) x y < -1000000000000
              · rw [if_neg c1, if_pos c2, if_pos (Or.inr c2)]
                exact ⟨_, by rw [List.length_set]; exact hvs, rfl⟩
              · rw [if_neg c1, if_neg c2, if_neg (by intro q; rcases q with q | q; exact c1 q; exact c2 q)]
                exact ih (i + 1) (jnV (fG L 0 i) x y :: r) (vs.set r.length (jnV (fG L 0 i) x y)) (m + 1) (by omega) (by simp only [List.length_cons]; omega) (by rw [List.length_set]; exact hvs) (ag_push (by omega) hag.2.2) hwf.2 (by omega)
end KL
