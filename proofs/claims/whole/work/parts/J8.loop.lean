/-! The law's loop: one step. -/
/-- class at x, reference at a, over what else there is -/
def bothH (B : ia_H) (x a : Nat) (C : aC) (M : aG) : ia_H := pM (tot B x C) a M
section JX8
variable (xs : List Int32) (d : Nat) {B : ia_H} {x a : Nat} {C C' : aC} {M M' : aG} {jc jm : Nat} {as : List Value}
theorem both_c (hx : x + 158 ≤ a) : bothH B x a C M = tot (pM B a M) x C := put_comm (Or.inl hx)
theorem tot_irr {H h : ia_H} (e : tot H x C = tot H x C') : tot h x C = tot h x C' := by
  refine ia_ext rfl rfl fun k => ?_
  have := congrArg (fun g : ia_H => g.2.2 k) e
  have g1 : (if x ≤ k ∧ k < x + 158 then tcell x C (rid (k - x)) (rloc (k - x)) else H.2.2 k) = if x ≤ k ∧ k < x + 158 then tcell x C' (rid (k - x)) (rloc (k - x)) else H.2.2 k := this
  show (if x ≤ k ∧ k < x + 158 then tcell x C (rid (k - x)) (rloc (k - x)) else h.2.2 k) = if x ≤ k ∧ k < x + 158 then tcell x C' (rid (k - x)) (rloc (k - x)) else h.2.2 k
  by_cases c : x ≤ k ∧ k < x + 158
  · rw [if_pos c, if_pos c] at g1 ⊢
    exact g1
  · rw [if_neg c, if_neg c]
theorem both_op (hx : x + 158 ≤ a) (op : ∀ H h : ia_H, opI xs d H h x a C M jc jm as) : ∃ v C' M', Rl x C' M' ∧ ia_cal xs (d + 20) jc (.ref x :: as) (bothH B x a C M) = some (some (.int v), bothH B x a C' M) ∧ ia_cal xs (d + 20) jm (.ref a :: as) (bothH B x a C' M) = some (some (.int v), bothH B x a C' M') := by
  obtain ⟨v, C1, M1, hR1, e1, -⟩ := op (pM B a M) B
  obtain ⟨w, C2, M2, hR2, e2, f2⟩ := op (pM B a M) (tot B x C1)
  have e0 := e1
  rw [e1] at e2
  obtain ⟨e3, e4⟩ := Prod.mk.inj (Option.some.inj e2)
  cases e3
  have e5 := tot_irr (h := B) e4
  refine ⟨v, C2, M2, hR2, ?_, ?_⟩
  · rw [both_c hx, both_c hx, ← e4]
    exact e0
  · rw [e5] at f2
    exact f2
theorem both_opL (hx : x + 158 ≤ a) (op : ∀ H h : ia_H, opL xs d H h x a C M jc jm as) : ∃ v C' M', Rl x C' M' ∧ ia_cal xs (d + 20) jc (.ref x :: as) (bothH B x a C M) = some (some (.long v), bothH B x a C' M) ∧ ia_cal xs (d + 20) jm (.ref a :: as) (bothH B x a C' M) = some (some (.long v), bothH B x a C' M') := by
  obtain ⟨v, C1, M1, hR1, e1, -⟩ := op (pM B a M) B
  obtain ⟨w, C2, M2, hR2, e2, f2⟩ := op (pM B a M) (tot B x C1)
  have e0 := e1
  rw [e1] at e2
  obtain ⟨e3, e4⟩ := Prod.mk.inj (Option.some.inj e2)
  cases e3
  have e5 := tot_irr (h := B) e4
  refine ⟨v, C2, M2, hR2, ?_, ?_⟩
  · rw [both_c hx, both_c hx, ← e4]
    exact e0
  · rw [e5] at f2
    exact f2
theorem both_1 : ia_cls (bothH B x a C M) a = 10 := pM_cls _ _ _
theorem both_0 (hx : x + 158 ≤ a) : ia_cls (bothH B x a C M) x = 9 := by
  rw [both_c hx]
  exact cls_of (fs := [.ref (x + 1), .int ((C.1 0).1 0), .ref ((C.1 0).2.2.2.2 0), .ref ((C.1 0).2.2.2.2 1), .ref ((C.1 0).2.2.2.2 2), .int ((C.1 0).1 1), .ref ((C.1 0).2.2.2.2 3), .ref ((C.1 0).2.2.2.2 4), .ref ((C.1 0).2.2.2.2 5), .ref ((C.1 0).2.2.2.2 6), .ref ((C.1 0).2.2.2.2 7)]) (put_in0 (by decide))
variable {N Z : ia_H → Option ia_R} {R : Option ia_R → Prop}
theorem ls_i (hx : x + 158 ≤ a) (op : ∀ H h : ia_H, opI xs d H h x a C M jc jm as) (hN : ∀ C' M', Rl x C' M' → R (N (bothH B x a C' M'))) : R (if ia_cls (bothH B x a C M) x = 9 then ia_cI (ia_cal xs (d + 20) jc (.ref x :: as) (bothH B x a C M)) (fun x8 h7 => if ia_cls h7 a = 10 then ia_cI (ia_cal xs (d + 20) jm (.ref a :: as) h7) (fun x15 h14 => if x8 = x15 then N h14 else Z h14) else none) else none) := by
  obtain ⟨v, C', M', hR', e1, e2⟩ := both_op xs d (B := B) hx op
  rw [if_pos (both_0 hx), cI_of e1, if_pos both_1, cI_of e2, if_pos rfl]
  exact hN C' M' hR'
theorem ls_l (hx : x + 158 ≤ a) (op : ∀ H h : ia_H, opL xs d H h x a C M jc jm as) (hN : ∀ C' M', Rl x C' M' → R (N (bothH B x a C' M'))) : R (if ia_cls (bothH B x a C M) x = 9 then ia_cL (ia_cal xs (d + 20) jc (.ref x :: as) (bothH B x a C M)) (fun x8 h7 => if ia_cls h7 a = 10 then ia_cL (ia_cal xs (d + 20) jm (.ref a :: as) h7) (fun x15 h14 => if (lg_cmp x8 x15 : Int32) = 0 then N h14 else Z h14) else none) else none) := by
  obtain ⟨v, C', M', hR', e1, e2⟩ := both_opL xs d (B := B) hx op
  have c0 : lg_cmp v v = 0 := by unfold lg_cmp; simp
  rw [if_pos (both_0 hx), cL_of e1, if_pos both_1, cL_of e2, if_pos c0]
  exact hN C' M' hR'
variable {r1 r2 r3 r4 r5 : Option Int32} {y1 y2 y3 y4 y5 : Int32}
theorem ls_1 (hx : x + 158 ≤ a) (e1 : r1 = some y1) (op : ∀ H h : ia_H, opI xs d H h x a C M jc jm [.int y1]) (hN : ∀ C' M', Rl x C' M' → R (N (bothH B x a C' M'))) : R (r1.bind fun z1 => if ia_cls (bothH B x a C M) x = 9 then ia_cI (ia_cal xs (d + 20) jc [.ref x, .int z1] (bothH B x a C M)) (fun x8 h7 => r1.bind fun w1 => if ia_cls h7 a = 10 then ia_cI (ia_cal xs (d + 20) jm [.ref a, .int w1] h7) (fun x15 h14 => if x8 = x15 then N h14 else Z h14) else none) else none) := by
  subst e1
  exact ls_i xs d hx op hN
theorem ls_2 (hx : x + 158 ≤ a) (e1 : r1 = some y1) (e2 : r2 = some y2) (op : ∀ H h : ia_H, opI xs d H h x a C M jc jm [.int y1, .int y2]) (hN : ∀ C' M', Rl x C' M' → R (N (bothH B x a C' M'))) : R (r1.bind fun z1 => r2.bind fun z2 => if ia_cls (bothH B x a C M) x = 9 then ia_cI (ia_cal xs (d + 20) jc [.ref x, .int z1, .int z2] (bothH B x a C M)) (fun x8 h7 => r1.bind fun w1 => r2.bind fun w2 => if ia_cls h7 a = 10 then ia_cI (ia_cal xs (d + 20) jm [.ref a, .int w1, .int w2] h7) (fun x15 h14 => if x8 = x15 then N h14 else Z h14) else none) else none) := by
  subst e1 e2
  exact ls_i xs d hx op hN
theorem ls_2l (hx : x + 158 ≤ a) (e1 : r1 = some y1) (e2 : r2 = some y2) (op : ∀ H h : ia_H, opL xs d H h x a C M jc jm [.int y1, .int y2]) (hN : ∀ C' M', Rl x C' M' → R (N (bothH B x a C' M'))) : R (r1.bind fun z1 => r2.bind fun z2 => if ia_cls (bothH B x a C M) x = 9 then ia_cL (ia_cal xs (d + 20) jc [.ref x, .int z1, .int z2] (bothH B x a C M)) (fun x8 h7 => r1.bind fun w1 => r2.bind fun w2 => if ia_cls h7 a = 10 then ia_cL (ia_cal xs (d + 20) jm [.ref a, .int w1, .int w2] h7) (fun x15 h14 => if (lg_cmp x8 x15 : Int32) = 0 then N h14 else Z h14) else none) else none) := by
  subst e1 e2
  exact ls_l xs d hx op hN
theorem ls_3 (hx : x + 158 ≤ a) (e1 : r1 = some y1) (e2 : r2 = some y2) (e3 : r3 = some y3) (op : ∀ H h : ia_H, opI xs d H h x a C M jc jm [.int y1, .int y2, .int y3]) (hN : ∀ C' M', Rl x C' M' → R (N (bothH B x a C' M'))) : R (r1.bind fun z1 => r2.bind fun z2 => r3.bind fun z3 => if ia_cls (bothH B x a C M) x = 9 then ia_cI (ia_cal xs (d + 20) jc [.ref x, .int z1, .int z2, .int z3] (bothH B x a C M)) (fun x8 h7 => r1.bind fun w1 => r2.bind fun w2 => r3.bind fun w3 => if ia_cls h7 a = 10 then ia_cI (ia_cal xs (d + 20) jm [.ref a, .int w1, .int w2, .int w3] h7) (fun x15 h14 => if x8 = x15 then N h14 else Z h14) else none) else none) := by
  subst e1 e2 e3
  exact ls_i xs d hx op hN
theorem ls_5 (hx : x + 158 ≤ a) (e1 : r1 = some y1) (e2 : r2 = some y2) (e3 : r3 = some y3) (e4 : r4 = some y4) (e5 : r5 = some y5) (op : ∀ H h : ia_H, opI xs d H h x a C M jc jm [.int y1, .int y2, .int y3, .int y4, .int y5]) (hN : ∀ C' M', Rl x C' M' → R (N (bothH B x a C' M'))) : R (r1.bind fun z1 => r2.bind fun z2 => r3.bind fun z3 => r4.bind fun z4 => r5.bind fun z5 => if ia_cls (bothH B x a C M) x = 9 then ia_cI (ia_cal xs (d + 20) jc [.ref x, .int z1, .int z2, .int z3, .int z4, .int z5] (bothH B x a C M)) (fun x8 h7 => r1.bind fun w1 => r2.bind fun w2 => r3.bind fun w3 => r4.bind fun w4 => r5.bind fun w5 => if ia_cls h7 a = 10 then ia_cI (ia_cal xs (d + 20) jm [.ref a, .int w1, .int w2, .int w3, .int w4, .int w5] h7) (fun x15 h14 => if x8 = x15 then N h14 else Z h14) else none) else none) := by
  subst e1 e2 e3 e4 e5
  exact ls_i xs d hx op hN
end JX8
