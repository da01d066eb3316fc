/-! Script: contracts. -/
/-- Script: p people, n prices -/
def wfS (S : aG) (p n : Nat) : Prop := S.1 0 = nI p ∧ S.1 1 = nI n ∧ p ≤ 6 ∧ n ≤ 6 ∧ (S.2.1 0).length = 6 ∧ (S.2.1 1).length = 6 ∧ (S.2.1 2).length = 6 ∧ (S.2.1 3).length = 6
def fG (S : aG) (k : Nat) : Nat → Int32 := fun i => (S.2.1 k).getD i 0
theorem rdG {S : aG} {k i : Nat} (hi : i < (S.2.1 k).length) (h31 : (S.2.1 k).length < 2 ^ 31) : rd (S.2.1 k) (nI i) = some (fG S k i) := rdN hi h31
def prF (fr pe : Nat → Int32) (q : Int32) : Nat → Int32 × Int32
  | 0 => (-1, 5)
  | i + 1 => if q < fr i then prF fr pe q i else if fr i < (prF fr pe q i).1 then prF fr pe q i else (fr i, pe i)
section KS
variable (xs : List Int32) (d : Nat) (h : ia_H) (a : Nat) (S : aG) {p n : Nat}
theorem k_personNamed (hw : wfS S p n) (v : Int32) : ia_cal xs (d + 1) im_Script_personNamed [.ref a, .int v] (pS h a S) = some (some (.int (fstI (fun i => fG S 0 i = v) p 0)), pS h a S) := by
  obtain ⟨hp, hn, hp6, hn6, l0, l1, l2, l3⟩ := hw
  rw [iu_Script_personNamed, iq_Script_personNamed_0, ← srch_fst]
  refine lp_find (F := fun n i => ia_qr xs (ia_cal xs d) im_Script_personNamed n 2 [.ref a, .int v, .int (nI i)] [] (pS h a S)) (N := p) (cost := 1) (fun i hi n hn => ?_) (fun n => ?_) p 0 (by omega) _ (by omega)
  · obtain ⟨m, rfl⟩ : ∃ m, n = m + 1 := ⟨n - 1, by omega⟩
    refine ⟨m, Nat.le_refl _, ?_⟩
    simp only [iq_Script_personNamed_2, pS_I, pS_R, pS_ld, Option.bind_some, hp, rdG (show i < (S.2.1 0).length by omega) (by omega)]
    rw [if_pos (nI_lt hi (by omega))]
    simp only [nI_1]
  · simp only [iq_Script_personNamed_2, pS_I, Option.bind_some, hp]
    rw [if_neg (nI_nlt (Nat.le_refl _) (by omega))]
theorem k_priceAt (hw : wfS S p n) (q : Int32) : ia_cal xs (d + 1) im_Script_priceAt [.ref a, .int q] (pS h a S) = some (some (.int (prF (fG S 2) (fG S 3) q n).2), pS h a S) := by
  obtain ⟨hp, hn, hp6, hn6, l0, l1, l2, l3⟩ := hw
  rw [iu_Script_priceAt, iq_Script_priceAt_0]
  refine lp_up (F := fun m i => ia_qr xs (ia_cal xs d) im_Script_priceAt m 6 [.ref a, .int q, .int (prF (fG S 2) (fG S 3) q i).1, .int (prF (fG S 2) (fG S 3) q i).2, .int (nI i)] [] (pS h a S)) (N := n) (cost := 1) (fun i hi m hm => ?_) (fun m => ?_) n 0 (by omega) _ (by omega)
  · obtain ⟨m, rfl⟩ : ∃ k, m = k + 1 := ⟨m - 1, by omega⟩
    refine ⟨m, Nat.le_refl _, ?_⟩
    simp only [iq_Script_priceAt_6, pS_I, pS_R, pS_ld, Option.bind_some, hn, rdG (show i < (S.2.1 2).length by omega) (by omega), rdG (show i < (S.2.1 3).length by omega) (by omega)]
    rw [if_pos (nI_lt hi (by omega))]
    simp only [nI_1, prF]
    by_cases h1 : q < fG S 2 i
    · simp [h1]
    · by_cases h2 : fG S 2 i < (prF (fG S 2) (fG S 3) q i).1 <;> simp [h1, h2]
  · simp only [iq_Script_priceAt_6, pS_I, Option.bind_some, hn]
    rw [if_neg (nI_nlt (Nat.le_refl _) (by omega))]
theorem k_lineCount : ia_cal xs (d + 1) im_Script_lineCount [.ref a] (pS h a S) = some (some (.int (if S.1 2 = -1 then 3 else S.1 2)), pS h a S) := by
  rw [iu_Script_lineCount, iq_Script_lineCount_0]
  simp only [pS_I, Option.bind_some]
  split <;> rfl
theorem k_tryCount : ia_cal xs (d + 1) im_Script_tryCount [.ref a] (pS h a S) = some (some (.int (if S.1 3 = -1 then 3 else S.1 3)), pS h a S) := by
  rw [iu_Script_tryCount, iq_Script_tryCount_0]
  simp only [pS_I, Option.bind_some]
  split <;> rfl
end KS
/-! Laws: contracts. Ints 0 knots, 1 written; rows 0 kinds, 1 numbers, 2 starts, 3 ends; rows of longs 0 meanings, 1 values. -/
def wfL (L : aG) : Prop := (L.2.1 0).length = 64 ∧ (L.2.1 1).length = 64 ∧ (L.2.1 2).length = 3 ∧ (L.2.1 3).length = 3 ∧ (L.2.2.2.1 0).length = 7 ∧ (L.2.2.2.1 1).length = 64
def tldI (L : aG) (k : Nat) : Int32 := if fG L 2 k < fG L 3 k then 1 else 0
theorem lg0 {x y : Int64} : lg_cmp x y = 0 ↔ x = y := by
  unfold lg_cmp
  by_cases h1 : x > y
  · rw [if_pos h1]
    constructor
    · intro q; exact absurd q (by decide)
    · intro q; subst q; exact absurd h1 Int64.lt_irrefl
  · rw [if_neg h1]
    by_cases h2 : x = y
    · rw [if_pos h2]; exact ⟨fun _ => h2, fun _ => rfl⟩
    · rw [if_neg h2]
      exact ⟨fun q => absurd q (by decide), fun q => absurd q h2⟩
theorem lgp {x y : Int64} : (0 : Int32) < lg_cmp x y ↔ y < x := by
  unfold lg_cmp
  by_cases h1 : x > y
  · rw [if_pos h1]
    exact ⟨fun _ => h1, fun _ => by decide⟩
  · rw [if_neg h1]
    by_cases h2 : x = y
    · rw [if_pos h2]; exact ⟨fun q => absurd q (by decide), fun q => absurd q h1⟩
    · rw [if_neg h2]
      exact ⟨fun q => absurd q (by decide), fun q => absurd q h1⟩
theorem lgn {x y : Int64} : lg_cmp x y < (0 : Int32) ↔ x < y := by
  unfold lg_cmp
  by_cases h1 : x > y
  · rw [if_pos h1]
    exact ⟨fun q => absurd q (by decide), fun q => absurd (Int64.lt_trans q h1) Int64.lt_irrefl⟩
  · rw [if_neg h1]
    by_cases h2 : x = y
    · rw [if_pos h2]; exact ⟨fun q => absurd q (by decide), fun q => by subst h2; exact absurd q Int64.lt_irrefl⟩
    · rw [if_neg h2]
      refine ⟨fun _ => ?_, fun _ => by decide⟩
      have h3 : ¬ y < x := h1
      have h4 : x ≤ y := Int64.not_lt.mp h3
      exact Int64.lt_of_le_of_ne h4 h2
section KL
variable (xs : List Int32) (d : Nat) (h : ia_H) (a : Nat) (L : aG)
theorem k_isTold (hw : wfL L) {k : Nat} (hk : k < 3) : ia_cal xs (d + 1) im_Laws_isTold [.ref a, .int (nI k)] (pL h a L) = some (some (.int (tldI L k)), pL h a L) := by
  obtain ⟨-, -, l2, l3, -, -⟩ := hw
  rw [iu_Laws_isTold, iq_Laws_isTold_0]
  simp only [pL_R, pL_ld, Option.bind_some, rdG (show k < (L.2.1 2).length by omega) (by omega), rdG (show k < (L.2.1 3).length by omega) (by omega), tldI]
  rw [if_neg (nI_pos (by omega)), if_pos (show nI k < (3 : Int32) from nI_lt (b := 3) hk (by omega))]
  by_cases h1 : fG L 2 k < fG L 3 k <;> simp [h1]
/-- two values joined by a sign; -2 to the 63 is an ERROR -/
def jnV (k : Int32) (a b : Int64) : Int64 :=
  if k = 22 then (if a = 0 ∧ b = 0 then 0 else 1) else if k = 23 then (if a = 0 ∨ b = 0 then 0 else 1) else if k = 28 then a + b else if k = 29 then a - b
  else if k = 30 then (if (if a = 0 then 1000000000000 else 1000000000000 / (if a < 0 then -a else a)) < b ∨ b < -(if a = 0 then 1000000000000 else 1000000000000 / (if a < 0 then -a else a)) then -9223372036854775808 else a * b)
  else if k = 31 then (if b = 0 then -9223372036854775808 else a / b) else if k = 32 then (if a = b then 1 else 0) else if k = 33 then (if a < b then 1 else 0)
  else if k = 34 then (if b < a then 0 else 1) else if k = 35 then (if a = b then 0 else 1) else if k = 36 then (if b < a then 1 else 0) else if k = 37 then (if a < b then 0 else 1) else -9223372036854775808
theorem k_join (k : Int32) (v w : Int64) (g : ia_H) : ia_cal xs (d + 1) im_Laws_join [.int k, .long v, .long w] g = some (some (.long (jnV k v w)), g) := by
  rw [iu_Laws_join, iq_Laws_join_0]
  have key : ∀ n s, s = (if v = 0 then 1000000000000 else 1000000000000 / (if v < 0 then -v else v)) → ia_qr xs (ia_cal xs d) im_Laws_join (n + 1) 16 [.int k, .long v, .float 0, .long w, .float 0, .float 0, .float 0] [.long s] g = some (some (.long (jnV k v w)), g) := by
    intro n s hs
    subst hs
    rw [iq_Laws_join_16]
    simp only [lg0, lgp, lgn, jnV]
    by_cases h22 : k = 22
    · by_cases h1 : v = 0 <;> by_cases h2 : w = 0 <;> simp [h22, h1, h2]
    by_cases h23 : k = 23
    · by_cases h1 : v = 0 <;> by_cases h2 : w = 0 <;> simp [h23, h1, h2]
    by_cases h24 : k = 24
    · simp [h24]
    by_cases h25 : k = 25
    · simp [h25]
    by_cases h26 : k = 26
    · simp [h26]
    by_cases h27 : k = 27
    · simp [h27]
    simp only [h22, h23, h24, h25, h26, h27, if_false]
    by_cases h30 : k = 30
    · subst h30
      generalize (if v = 0 then (1000000000000 : Int64) else 1000000000000 / (if v < 0 then -v else v)) = q
      by_cases q1 : q < w <;> by_cases q2 : w < -q <;> simp [q1, q2]
    simp only [h30, if_false]
    by_cases h31 : k = 31
    · by_cases h2 : w = 0 <;> simp [h31, h2]
    simp only [h31, if_false]
    split
    · rfl
    · split
      · rfl
      · split
        · split <;> rfl
        · split
          · split <;> rfl
          · split
            · split <;> rfl
            · split
              · split <;> rfl
              · split
                · split <;> rfl
                · split
                  · split <;> rfl
                  · rfl
  simp only [lg0, lgn]
  by_cases h1 : v = 0
  · rw [if_pos h1]
    exact key _ _ (by rw [if_pos h1])
  · rw [if_neg h1]
    by_cases h2 : v < 0
    · rw [if_pos h2, iq_Laws_join_15, if_neg (fun q => h1 (by have := congrArg Neg.neg q; simpa using this))]
      exact key _ _ (by rw [if_neg h1, if_pos h2])
    · rw [if_neg h2, iq_Laws_join_15, if_neg h1]
      exact key _ _ (by rw [if_neg h1, if_neg h2])
end KL
