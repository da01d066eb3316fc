/-! One heap: exchange at e, world at w, script at s, its laws at s + 18 (written by gency.py). -/
section PI
variable {h : ia_H} {a n b m c k p q : Nat} {f f2 g u v : Nat → ia_E}
theorem put_in2 (d1 : b + m ≤ a ∨ a + n ≤ b) : ia_put (ia_put (ia_put h a n f) b m g) a n f2 = ia_put (ia_put h a n f2) b m g := by
  rw [put_comm d1, put_put]
theorem put_in3 (d2 : c + k ≤ a ∨ a + n ≤ c) (d1 : b + m ≤ a ∨ a + n ≤ b) : ia_put (ia_put (ia_put (ia_put h a n f) b m g) c k u) a n f2 = ia_put (ia_put (ia_put h a n f2) b m g) c k u :=
  (put_comm d2).trans (congrArg (fun z => ia_put z c k u) (put_in2 d1))
theorem put_in4 (d3 : p + q ≤ a ∨ a + n ≤ p) (d2 : c + k ≤ a ∨ a + n ≤ c) (d1 : b + m ≤ a ∨ a + n ≤ b) : ia_put (ia_put (ia_put (ia_put (ia_put h a n f) b m g) c k u) p q v) a n f2 = ia_put (ia_put (ia_put (ia_put h a n f2) b m g) c k u) p q v :=
  (put_comm d3).trans (congrArg (fun z => ia_put z p q v) (put_in3 d2 d1))
end PI
/-- the laws with other scratch rows -/
def gL (L : aG) (sc : List Int64 × List Int64) : aG := gB (gB L 0 sc.1) 1 sc.2
theorem gL_1 {L : aG} {sc : List Int64 × List Int64} : (gL L sc).1 = L.1 := rfl
theorem gL_2 {L : aG} {sc : List Int64 × List Int64} : (gL L sc).2.1 = L.2.1 := rfl
theorem gL_m {L : aG} {sc : List Int64 × List Int64} : (gL L sc).2.2.2.1 0 = sc.1 := by
  unfold gL
  rw [gB_n (by decide), gB_s]
theorem gL_v {L : aG} {sc : List Int64 × List Int64} : (gL L sc).2.2.2.1 1 = sc.2 := gB_s
theorem gL_gm {L : aG} {sc : List Int64 × List Int64} {l : List Int64} : gB (gL L sc) 0 l = gL L (l, sc.2) := by
  unfold gL gB
  refine Prod.ext rfl (Prod.ext rfl (Prod.ext rfl (Prod.ext ?_ rfl)))
  funext j
  show (if j = 0 then l else if j = 1 then sc.2 else if j = 0 then sc.1 else L.2.2.2.1 j) = if j = 1 then sc.2 else if j = 0 then l else L.2.2.2.1 j
  by_cases h0 : j = 0
  · subst h0; rfl
  · rw [if_neg h0, if_neg h0, if_neg h0]
theorem gL_gv {L : aG} {sc : List Int64 × List Int64} {l : List Int64} : gB (gL L sc) 1 l = gL L (sc.1, l) := gB_B
theorem gL_id {L : aG} : gL L (L.2.2.2.1 0, L.2.2.2.1 1) = L := by
  unfold gL
  rw [gB_id]
  exact gB_id
def scw (sc : List Int64 × List Int64) : Prop := sc.1.length = 7 ∧ sc.2.length = 64
def dj (e w s : Nat) : Prop := (e < w ∨ w + 13 ≤ e) ∧ (e < s ∨ s + 25 ≤ e) ∧ (w + 13 ≤ s ∨ s + 25 ≤ w)
def cy (h : ia_H) (e w s : Nat) (E S L : aG) (dr : Int64) (X : aW) (sc : List Int64 × List Int64) : ia_H := pE (pW (pS (pL h (s + 18) (gL L sc)) s S) w X) e (gJ E 0 dr)
section CY
variable {h : ia_H} {e w s : Nat} {E S L : aG} {dr : Int64} {X : aW} {sc : List Int64 × List Int64}
theorem gJ_J {v u : Int64} : gJ (gJ E 0 v) 0 u = gJ E 0 u := Prod.ext rfl (Prod.ext rfl (Prod.ext up_u rfl))
theorem cyE {E2 : aG} : pE (cy h e w s E S L dr X sc) e (gJ E2 0 dr) = cy h e w s E2 S L dr X sc := put_put
theorem cyJ {v : Int64} : pE (cy h e w s E S L dr X sc) e (gJ (gJ E 0 dr) 0 v) = cy h e w s E S L v X sc := by
  rw [gJ_J]
  exact put_put
theorem cyW (q : dj e w s) {X2 : aW} : pW (cy h e w s E S L dr X sc) w X2 = cy h e w s E S L dr X2 sc := put_in2 (by have := q.1; omega)
theorem cyS (q : dj e w s) {S2 : aG} : pS (cy h e w s E S L dr X sc) s S2 = cy h e w s E S2 L dr X sc := put_in3 (by have := q.2.1; omega) (by have := q.2.2; omega)
theorem cyL (q : dj e w s) {sc2 : List Int64 × List Int64} : pL (cy h e w s E S L dr X sc) (s + 18) (gL L sc2) = cy h e w s E S L dr X sc2 := put_in4 (by have := q.2.1; omega) (by have := q.2.2; omega) (by omega)
theorem cy_Wcls (q : dj e w s) : ia_cls (cy h e w s E S L dr X sc) w = 8 := by
  have this := pW_cls (cy h e w s E S L dr X sc) w X
  rw [cyW q] at this
  exact this
theorem cy_WI (q : dj e w s) : ia_getI (cy h e w s E S L dr X sc) w 8 0 = some (X.1 0) ∧ ia_getI (cy h e w s E S L dr X sc) w 8 1 = some (X.1 1) ∧ ia_getI (cy h e w s E S L dr X sc) w 8 4 = some (X.1 2) ∧ ia_getI (cy h e w s E S L dr X sc) w 8 9 = some (X.1 3) := by
  have this := pW_I (cy h e w s E S L dr X sc) w X
  rw [cyW q] at this
  exact this
theorem cy_WR (q : dj e w s) : ia_getR (cy h e w s E S L dr X sc) w 8 2 = some (w + 1) ∧ ia_getR (cy h e w s E S L dr X sc) w 8 3 = some (w + 2) ∧ ia_getR (cy h e w s E S L dr X sc) w 8 5 = some (w + 3) ∧ ia_getR (cy h e w s E S L dr X sc) w 8 6 = some (w + 4) ∧ ia_getR (cy h e w s E S L dr X sc) w 8 7 = some (w + 5) ∧ ia_getR (cy h e w s E S L dr X sc) w 8 8 = some (w + 6) ∧ ia_getR (cy h e w s E S L dr X sc) w 8 10 = some (w + 7) ∧ ia_getR (cy h e w s E S L dr X sc) w 8 11 = some (w + 8) ∧ ia_getR (cy h e w s E S L dr X sc) w 8 12 = some (w + 9) ∧ ia_getR (cy h e w s E S L dr X sc) w 8 13 = some (w + 10) ∧ ia_getR (cy h e w s E S L dr X sc) w 8 14 = some (w + 11) ∧ ia_getR (cy h e w s E S L dr X sc) w 8 15 = some (w + 12) := by
  have this := pW_R (cy h e w s E S L dr X sc) w X
  rw [cyW q] at this
  exact this
theorem cy_Wld (q : dj e w s) : (∀ i, ia_ald (cy h e w s E S L dr X sc) (w + 1) 0 i = rd (X.2 0) i) ∧ (∀ i, ia_ald (cy h e w s E S L dr X sc) (w + 2) 0 i = rd (X.2 1) i) ∧ (∀ i, ia_ald (cy h e w s E S L dr X sc) (w + 3) 0 i = rd (X.2 2) i) ∧ (∀ i, ia_ald (cy h e w s E S L dr X sc) (w + 4) 0 i = rd (X.2 3) i) ∧ (∀ i, ia_ald (cy h e w s E S L dr X sc) (w + 5) 0 i = rd (X.2 4) i) ∧ (∀ i, ia_ald (cy h e w s E S L dr X sc) (w + 6) 0 i = rd (X.2 5) i) ∧ (∀ i, ia_ald (cy h e w s E S L dr X sc) (w + 7) 0 i = rd (X.2 6) i) ∧ (∀ i, ia_ald (cy h e w s E S L dr X sc) (w + 8) 0 i = rd (X.2 7) i) ∧ (∀ i, ia_ald (cy h e w s E S L dr X sc) (w + 9) 0 i = rd (X.2 8) i) ∧ (∀ i, ia_ald (cy h e w s E S L dr X sc) (w + 10) 0 i = rd (X.2 9) i) ∧ (∀ i, ia_ald (cy h e w s E S L dr X sc) (w + 11) 0 i = rd (X.2 10) i) ∧ (∀ i, ia_ald (cy h e w s E S L dr X sc) (w + 12) 0 i = rd (X.2 11) i) := by
  have this := pW_ld (cy h e w s E S L dr X sc) w X
  rw [cyW q] at this
  exact this
theorem cy_Wst (q : dj e w s) : (∀ i x, ia_ast (cy h e w s E S L dr X sc) (w + 1) 0 i x = (wr (X.2 0) i x).map fun l => cy h e w s E S L dr (sA X 0 l) sc) ∧ (∀ i x, ia_ast (cy h e w s E S L dr X sc) (w + 2) 0 i x = (wr (X.2 1) i x).map fun l => cy h e w s E S L dr (sA X 1 l) sc) ∧ (∀ i x, ia_ast (cy h e w s E S L dr X sc) (w + 3) 0 i x = (wr (X.2 2) i x).map fun l => cy h e w s E S L dr (sA X 2 l) sc) ∧ (∀ i x, ia_ast (cy h e w s E S L dr X sc) (w + 4) 0 i x = (wr (X.2 3) i x).map fun l => cy h e w s E S L dr (sA X 3 l) sc) ∧ (∀ i x, ia_ast (cy h e w s E S L dr X sc) (w + 5) 0 i x = (wr (X.2 4) i x).map fun l => cy h e w s E S L dr (sA X 4 l) sc) ∧ (∀ i x, ia_ast (cy h e w s E S L dr X sc) (w + 6) 0 i x = (wr (X.2 5) i x).map fun l => cy h e w s E S L dr (sA X 5 l) sc) ∧ (∀ i x, ia_ast (cy h e w s E S L dr X sc) (w + 7) 0 i x = (wr (X.2 6) i x).map fun l => cy h e w s E S L dr (sA X 6 l) sc) ∧ (∀ i x, ia_ast (cy h e w s E S L dr X sc) (w + 8) 0 i x = (wr (X.2 7) i x).map fun l => cy h e w s E S L dr (sA X 7 l) sc) ∧ (∀ i x, ia_ast (cy h e w s E S L dr X sc) (w + 9) 0 i x = (wr (X.2 8) i x).map fun l => cy h e w s E S L dr (sA X 8 l) sc) ∧ (∀ i x, ia_ast (cy h e w s E S L dr X sc) (w + 10) 0 i x = (wr (X.2 9) i x).map fun l => cy h e w s E S L dr (sA X 9 l) sc) ∧ (∀ i x, ia_ast (cy h e w s E S L dr X sc) (w + 11) 0 i x = (wr (X.2 10) i x).map fun l => cy h e w s E S L dr (sA X 10 l) sc) ∧ (∀ i x, ia_ast (cy h e w s E S L dr X sc) (w + 12) 0 i x = (wr (X.2 11) i x).map fun l => cy h e w s E S L dr (sA X 11 l) sc) := by
  have this := pW_st (cy h e w s E S L dr X sc) w X
  simp only [cyW q] at this
  exact this
theorem cy_Wpf (q : dj e w s) : (∀ v, ia_putf (cy h e w s E S L dr X sc) w 8 0 (.int v) = some (cy h e w s E S L dr (sI X 0 v) sc)) ∧ (∀ v, ia_putf (cy h e w s E S L dr X sc) w 8 1 (.int v) = some (cy h e w s E S L dr (sI X 1 v) sc)) ∧ (∀ v, ia_putf (cy h e w s E S L dr X sc) w 8 4 (.int v) = some (cy h e w s E S L dr (sI X 2 v) sc)) ∧ (∀ v, ia_putf (cy h e w s E S L dr X sc) w 8 9 (.int v) = some (cy h e w s E S L dr (sI X 3 v) sc)) := by
  have this := pW_pf (cy h e w s E S L dr X sc) w X
  simp only [cyW q] at this
  exact this
theorem cy_Ecls : ia_cls (cy h e w s E S L dr X sc) e = 1 := by
  have this := pE_cls (cy h e w s E S L dr X sc) e (gJ E 0 dr)
  rw [cyE] at this
  exact this
theorem cy_EI : ia_getI (cy h e w s E S L dr X sc) e 1 1 = some (E.1 0) ∧ ia_getI (cy h e w s E S L dr X sc) e 1 2 = some (E.1 1) ∧ ia_getI (cy h e w s E S L dr X sc) e 1 3 = some (E.1 2) ∧ ia_getI (cy h e w s E S L dr X sc) e 1 4 = some (E.1 3) ∧ ia_getI (cy h e w s E S L dr X sc) e 1 5 = some (E.1 4) := by
  have this := pE_I (cy h e w s E S L dr X sc) e (gJ E 0 dr)
  rw [cyE] at this
  exact this
theorem cy_EJ : ia_getL (cy h e w s E S L dr X sc) e 1 6 = some (dr) := by
  have this := pE_J (cy h e w s E S L dr X sc) e (gJ E 0 dr)
  rw [cyE] at this
  exact this
theorem cy_ER : ia_getR (cy h e w s E S L dr X sc) e 1 0 = some (E.2.2.2.2 0) := by
  have this := pE_R (cy h e w s E S L dr X sc) e (gJ E 0 dr)
  rw [cyE] at this
  exact this
theorem cy_Epf : ∀ v, ia_putf (cy h e w s E S L dr X sc) e 1 6 (.long v) = some (cy h e w s E S L v X sc) := by
  intro v
  have this := pE_pf (cy h e w s E S L dr X sc) e (gJ E 0 dr)
  simp only [cyE, cyJ] at this
  exact this.2.2.2.2.2.1 v
theorem cy_Scls (q : dj e w s) : ia_cls (cy h e w s E S L dr X sc) s = 6 := by
  have this := pS_cls (cy h e w s E S L dr X sc) s S
  rw [cyS q] at this
  exact this
theorem cy_SI (q : dj e w s) : ia_getI (cy h e w s E S L dr X sc) s 6 0 = some (S.1 0) ∧ ia_getI (cy h e w s E S L dr X sc) s 6 3 = some (S.1 1) ∧ ia_getI (cy h e w s E S L dr X sc) s 6 6 = some (S.1 2) ∧ ia_getI (cy h e w s E S L dr X sc) s 6 7 = some (S.1 3) ∧ ia_getI (cy h e w s E S L dr X sc) s 6 8 = some (S.1 4) := by
  have this := pS_I (cy h e w s E S L dr X sc) s S
  rw [cyS q] at this
  exact this
theorem cy_SR (q : dj e w s) : ia_getR (cy h e w s E S L dr X sc) s 6 1 = some (s + 1) ∧ ia_getR (cy h e w s E S L dr X sc) s 6 2 = some (s + 2) ∧ ia_getR (cy h e w s E S L dr X sc) s 6 4 = some (s + 3) ∧ ia_getR (cy h e w s E S L dr X sc) s 6 5 = some (s + 4) ∧ ia_getR (cy h e w s E S L dr X sc) s 6 9 = some (S.2.2.2.2 0) ∧ ia_getR (cy h e w s E S L dr X sc) s 6 10 = some (S.2.2.2.2 1) := by
  have this := pS_R (cy h e w s E S L dr X sc) s S
  rw [cyS q] at this
  exact this
theorem cy_Sld (q : dj e w s) : (∀ i, ia_ald (cy h e w s E S L dr X sc) (s + 1) 0 i = rd (S.2.1 0) i) ∧ (∀ i, ia_ald (cy h e w s E S L dr X sc) (s + 2) 0 i = rd (S.2.1 1) i) ∧ (∀ i, ia_ald (cy h e w s E S L dr X sc) (s + 3) 0 i = rd (S.2.1 2) i) ∧ (∀ i, ia_ald (cy h e w s E S L dr X sc) (s + 4) 0 i = rd (S.2.1 3) i) := by
  have this := pS_ld (cy h e w s E S L dr X sc) s S
  rw [cyS q] at this
  exact this
theorem cy_Lcls (q : dj e w s) : ia_cls (cy h e w s E S L dr X sc) (s + 18) = 3 := by
  have this := pL_cls (cy h e w s E S L dr X sc) (s + 18) (gL L sc)
  simp only [cyL q] at this
  exact this
theorem cy_LI (q : dj e w s) : ia_getI (cy h e w s E S L dr X sc) (s + 18) 3 0 = some (L.1 0) ∧ ia_getI (cy h e w s E S L dr X sc) (s + 18) 3 1 = some (L.1 1) := by
  have this := pL_I (cy h e w s E S L dr X sc) (s + 18) (gL L sc)
  simp only [cyL q] at this
  exact this
theorem cy_LR (q : dj e w s) : ia_getR (cy h e w s E S L dr X sc) (s + 18) 3 2 = some ((s + 18) + 1) ∧ ia_getR (cy h e w s E S L dr X sc) (s + 18) 3 3 = some ((s + 18) + 2) ∧ ia_getR (cy h e w s E S L dr X sc) (s + 18) 3 4 = some ((s + 18) + 3) ∧ ia_getR (cy h e w s E S L dr X sc) (s + 18) 3 5 = some ((s + 18) + 4) ∧ ia_getR (cy h e w s E S L dr X sc) (s + 18) 3 6 = some ((s + 18) + 5) ∧ ia_getR (cy h e w s E S L dr X sc) (s + 18) 3 7 = some ((s + 18) + 6) := by
  have this := pL_R (cy h e w s E S L dr X sc) (s + 18) (gL L sc)
  simp only [cyL q] at this
  exact this
theorem cy_Lld (q : dj e w s) : (∀ i, ia_ald (cy h e w s E S L dr X sc) ((s + 18) + 1) 0 i = rd (L.2.1 0) i) ∧ (∀ i, ia_ald (cy h e w s E S L dr X sc) ((s + 18) + 2) 0 i = rd (L.2.1 1) i) ∧ (∀ i, ia_ald (cy h e w s E S L dr X sc) ((s + 18) + 3) 0 i = rd (L.2.1 2) i) ∧ (∀ i, ia_ald (cy h e w s E S L dr X sc) ((s + 18) + 4) 0 i = rd (L.2.1 3) i) := by
  have this := pL_ld (cy h e w s E S L dr X sc) (s + 18) (gL L sc)
  simp only [cyL q] at this
  exact this
theorem cy_Lll (q : dj e w s) : (∀ i, ia_lald (cy h e w s E S L dr X sc) ((s + 18) + 5) i = rd (sc.1) i) ∧ (∀ i, ia_lald (cy h e w s E S L dr X sc) ((s + 18) + 6) i = rd (sc.2) i) := by
  have this := pL_ll (cy h e w s E S L dr X sc) (s + 18) (gL L sc)
  simp only [cyL q, gL_m, gL_v] at this
  exact this
theorem cy_Lls (q : dj e w s) : (∀ i x, ia_last (cy h e w s E S L dr X sc) (s + 18 + 5) i x = (wr sc.1 i x).map fun l => cy h e w s E S L dr X (l, sc.2)) ∧ (∀ i x, ia_last (cy h e w s E S L dr X sc) (s + 18 + 6) i x = (wr sc.2 i x).map fun l => cy h e w s E S L dr X (sc.1, l)) := by
  have this := pL_ls (cy h e w s E S L dr X sc) (s + 18) (gL L sc)
  simp only [gL_m, gL_v, gL_gm, gL_gv, cyL q] at this
  exact this
end CY
/-! Numbers of bits. -/
def bcI (x : Int32) : Int32 :=
  let a := x - ((Int32.toUInt32 x >>> (Int32.toUInt32 (1) &&& Int32.toUInt32 31)).toInt32 &&& (1431655765))
  let b := (a &&& (858993459)) + ((Int32.toUInt32 a >>> (Int32.toUInt32 (2) &&& Int32.toUInt32 31)).toInt32 &&& (858993459))
  let c := (b + (Int32.toUInt32 b >>> (Int32.toUInt32 (4) &&& Int32.toUInt32 31)).toInt32) &&& (252645135)
  let e := c + (Int32.toUInt32 c >>> (Int32.toUInt32 (8) &&& Int32.toUInt32 31)).toInt32
  let f := e + (Int32.toUInt32 e >>> (Int32.toUInt32 (16) &&& Int32.toUInt32 31)).toInt32
  f &&& 63
section KB
variable (xs : List Int32) (d : Nat) (g : ia_H)
theorem k_bitCount (x : Int32) : ia_cal xs (d + 1) im_Integer_bitCount [.int x] g = some (some (.int (bcI x)), g) := by
  rw [iu_Integer_bitCount, iq_Integer_bitCount_0]
  rfl
theorem k_minI (x y : Int32) : ia_cal xs (d + 1) im_Math_minI [.int x, .int y] g = some (some (.int (if y < x then y else x)), g) := by
  rw [iu_Math_minI, iq_Math_minI_0]
  split <;> rfl
theorem k_minJ (x y : Int64) : ia_cal xs (d + 1) im_Math_minJ [.long x, .long y] g = some (some (.long (if y < x then y else x)), g) := by
  rw [iu_Math_minJ, iq_Math_minJ_0]
  simp only [lgp]
  split <;> rfl
theorem k_maxJ (x y : Int64) : ia_cal xs (d + 1) im_Math_maxJ [.long x, .long y] g = some (some (.long (if x < y then y else x)), g) := by
  rw [iu_Math_maxJ, iq_Math_maxJ_0]
  simp only [lgn]
  split <;> rfl
theorem k_absJ (x : Int64) : ia_cal xs (d + 1) im_Math_absJ [.long x] g = some (some (.long (if x < 0 then -x else x)), g) := by
  rw [iu_Math_absJ, iq_Math_absJ_0]
  simp only [lgn]
  split <;> rfl
end KB
