/-! One heap for the whole object of the class (written by gentot.py). -/
abbrev aC : Type := (Nat → aG) × (Nat → aW)
def uG (C : aC) (k : Nat) (V : aG) : aC := (va_up C.1 k V, C.2)
def uW (C : aC) (k : Nat) (V : aW) : aC := (C.1, va_up C.2 k V)
theorem uG_s {C : aC} {k : Nat} {V : aG} : (uG C k V).1 k = V := up_s
theorem uG_n {C : aC} {k j : Nat} {V : aG} (h : j ≠ k) : (uG C k V).1 j = C.1 j := up_n h
theorem uG_2 {C : aC} {k : Nat} {V : aG} : (uG C k V).2 = C.2 := rfl
theorem uW_1 {C : aC} {k : Nat} {V : aW} : (uW C k V).1 = C.1 := rfl
theorem uW_s {C : aC} {k : Nat} {V : aW} : (uW C k V).2 k = V := up_s
theorem uW_n {C : aC} {k j : Nat} {V : aW} (h : j ≠ k) : (uW C k V).2 j = C.2 j := up_n h
theorem uG_id {C : aC} {k : Nat} : uG C k (C.1 k) = C := Prod.ext up_id rfl
theorem uW_id {C : aC} {k : Nat} : uW C k (C.2 k) = C := Prod.ext rfl up_id
theorem uG_G {C : aC} {k : Nat} {V W : aG} : uG (uG C k V) k W = uG C k W := Prod.ext up_u rfl
theorem uW_W {C : aC} {k : Nat} {V W : aW} : uW (uW C k V) k W = uW C k W := Prod.ext rfl up_u
def cV (X : aG) : Nat → ia_E
  | 0 => .inl (0, X.2.1 0)
  | _ => ia_dead
def sd (x : Nat) (σ : Bool) : Nat := if σ then x + 54 else x + 2
def kS (σ : Bool) : Nat := if σ then 4 else 1
def kL (σ : Bool) : Nat := if σ then 5 else 2
def kF (σ : Bool) : Nat := if σ then 3 else 0
def ed (x : Nat) (ε : Bool) : Nat := if ε then x + 123 else x + 83
def kE (ε : Bool) : Nat := if ε then 12 else 8
def wA (x k : Nat) : Nat := x + [7, 27, 40, 59, 89, 110, 129].getD k 0
def tcell (x : Nat) (C : aC) : Nat → Nat → ia_E
  | 0, l => cN x (C.1 0) l
  | 1, l => cS (x + 2) (C.1 1) l
  | 2, l => cL (x + 20) (C.1 2) l
  | 3, l => cQ (x + 53) (C.1 3) l
  | 4, l => cS (x + 54) (C.1 4) l
  | 5, l => cL (x + 72) (C.1 5) l
  | 6, l => cT (x + 79) (C.1 6) l
  | 7, l => cV (C.1 7) l
  | 8, l => cE (x + 83) (C.1 8) l
  | 9, l => cS (x + 84) (C.1 9) l
  | 10, l => cL (x + 102) (C.1 10) l
  | 11, l => cF (x + 109) (C.1 11) l
  | 12, l => cE (x + 123) (C.1 12) l
  | 13, l => cS (x + 124) (C.1 13) l
  | 14, l => cL (x + 142) (C.1 14) l
  | 15, l => cU (x + 149) (C.1 15) l
  | 16, l => cD (x + 154) (C.1 16) l
  | 17, l => cW (x + 7) (C.2 0) l
  | 18, l => cW (x + 27) (C.2 1) l
  | 19, l => cW (x + 40) (C.2 2) l
  | 20, l => cW (x + 59) (C.2 3) l
  | 21, l => cW (x + 89) (C.2 4) l
  | 22, l => cW (x + 110) (C.2 5) l
  | 23, l => cW (x + 129) (C.2 6) l
  | _, _ => ia_dead
def rtab : List (Nat × Nat) := [(0, 0), (0, 1), (1, 0), (1, 1), (1, 2), (1, 3), (1, 4), (17, 0), (17, 1), (17, 2), (17, 3), (17, 4), (17, 5), (17, 6), (17, 7), (17, 8), (17, 9), (17, 10), (17, 11), (17, 12), (2, 0), (2, 1), (2, 2), (2, 3), (2, 4), (2, 5), (2, 6), (18, 0), (18, 1), (18, 2), (18, 3), (18, 4), (18, 5), (18, 6), (18, 7), (18, 8), (18, 9), (18, 10), (18, 11), (18, 12), (19, 0), (19, 1), (19, 2), (19, 3), (19, 4), (19, 5), (19, 6), (19, 7), (19, 8), (19, 9), (19, 10), (19, 11), (19, 12), (3, 0), (4, 0), (4, 1), (4, 2), (4, 3), (4, 4), (20, 0), (20, 1), (20, 2), (20, 3), (20, 4), (20, 5), (20, 6), (20, 7), (20, 8), (20, 9), (20, 10), (20, 11), (20, 12), (5, 0), (5, 1), (5, 2), (5, 3), (5, 4), (5, 5), (5, 6), (6, 0), (6, 1), (6, 2), (7, 0), (8, 0), (9, 0), (9, 1), (9, 2), (9, 3), (9, 4), (21, 0), (21, 1), (21, 2), (21, 3), (21, 4), (21, 5), (21, 6), (21, 7), (21, 8), (21, 9), (21, 10), (21, 11), (21, 12), (10, 0), (10, 1), (10, 2), (10, 3), (10, 4), (10, 5), (10, 6), (11, 0), (22, 0), (22, 1), (22, 2), (22, 3), (22, 4), (22, 5), (22, 6), (22, 7), (22, 8), (22, 9), (22, 10), (22, 11), (22, 12), (12, 0), (13, 0), (13, 1), (13, 2), (13, 3), (13, 4), (23, 0), (23, 1), (23, 2), (23, 3), (23, 4), (23, 5), (23, 6), (23, 7), (23, 8), (23, 9), (23, 10), (23, 11), (23, 12), (14, 0), (14, 1), (14, 2), (14, 3), (14, 4), (14, 5), (14, 6), (15, 0), (15, 1), (15, 2), (15, 3), (15, 4), (16, 0), (16, 1), (16, 2), (16, 3)]
def rid (j : Nat) : Nat := (rtab.getD j (99, 0)).1
def rloc (j : Nat) : Nat := (rtab.getD j (99, 0)).2
def tot (H : ia_H) (x : Nat) (C : aC) : ia_H := ia_put H x 158 (fun j => tcell x C (rid j) (rloc j))
theorem put_sub {H : ia_H} {x N o n : Nat} {f f' g : Nat → ia_E} (ho : o + n ≤ N) (h : ∀ j, j < N → f' j = if o ≤ j ∧ j < o + n then g (j - o) else f j) : ia_put (ia_put H x N f) (x + o) n g = ia_put H x N f' := by
  refine ia_ext rfl rfl fun k => ?_
  show (if x + o ≤ k ∧ k < x + o + n then g (k - (x + o)) else (if x ≤ k ∧ k < x + N then f (k - x) else H.2.2 k)) = if x ≤ k ∧ k < x + N then f' (k - x) else H.2.2 k
  by_cases c1 : x ≤ k ∧ k < x + N
  · rw [if_pos c1, if_pos c1, h (k - x) (by omega)]
    by_cases c2 : o ≤ k - x ∧ k - x < o + n
    · rw [if_pos c2, if_pos (by omega), show k - (x + o) = k - x - o by omega]
    · rw [if_neg c2, if_neg (by omega)]
  · rw [if_neg c1, if_neg c1, if_neg (by omega)]
theorem tc_G {x k r l : Nat} {C : aC} {V : aG} (h : r ≠ k) : tcell x (uG C k V) r l = tcell x C r l := by
  match r, h with
  | 0, h => simp only [tcell, uG_n h]
  | 1, h => simp only [tcell, uG_n h]
  | 2, h => simp only [tcell, uG_n h]
  | 3, h => simp only [tcell, uG_n h]
  | 4, h => simp only [tcell, uG_n h]
  | 5, h => simp only [tcell, uG_n h]
  | 6, h => simp only [tcell, uG_n h]
  | 7, h => simp only [tcell, uG_n h]
  | 8, h => simp only [tcell, uG_n h]
  | 9, h => simp only [tcell, uG_n h]
  | 10, h => simp only [tcell, uG_n h]
  | 11, h => simp only [tcell, uG_n h]
  | 12, h => simp only [tcell, uG_n h]
  | 13, h => simp only [tcell, uG_n h]
  | 14, h => simp only [tcell, uG_n h]
  | 15, h => simp only [tcell, uG_n h]
  | 16, h => simp only [tcell, uG_n h]
  | 17, h => rfl
  | 18, h => rfl
  | 19, h => rfl
  | 20, h => rfl
  | 21, h => rfl
  | 22, h => rfl
  | 23, h => rfl
  | n + 24, h => rfl
theorem tc_W {x k r l : Nat} {C : aC} {V : aW} (h : r ≠ 17 + k) : tcell x (uW C k V) r l = tcell x C r l := by
  match r, h with
  | 0, h => rfl
  | 1, h => rfl
  | 2, h => rfl
  | 3, h => rfl
  | 4, h => rfl
  | 5, h => rfl
  | 6, h => rfl
  | 7, h => rfl
  | 8, h => rfl
  | 9, h => rfl
  | 10, h => rfl
  | 11, h => rfl
  | 12, h => rfl
  | 13, h => rfl
  | 14, h => rfl
  | 15, h => rfl
  | 16, h => rfl
  | 17, h => simp only [tcell, uW_n (show 0 ≠ k from fun e => h (by omega))]
  | 18, h => simp only [tcell, uW_n (show 1 ≠ k from fun e => h (by omega))]
  | 19, h => simp only [tcell, uW_n (show 2 ≠ k from fun e => h (by omega))]
  | 20, h => simp only [tcell, uW_n (show 3 ≠ k from fun e => h (by omega))]
  | 21, h => simp only [tcell, uW_n (show 4 ≠ k from fun e => h (by omega))]
  | 22, h => simp only [tcell, uW_n (show 5 ≠ k from fun e => h (by omega))]
  | 23, h => simp only [tcell, uW_n (show 6 ≠ k from fun e => h (by omega))]
  | n + 24, h => rfl
theorem tot_G {H : ia_H} {x k o n : Nat} {C : aC} {V : aG} {g : Nat → ia_E} (ho : o + n ≤ 158) (ht : ∀ j, j < 158 → (o ≤ j ∧ j < o + n ↔ rid j = k) ∧ (rid j = k → rloc j = j - o)) (hg : ∀ l, tcell x (uG C k V) k l = g l) : ia_put (tot H x C) (x + o) n g = tot H x (uG C k V) := by
  refine put_sub ho fun j hj => ?_
  obtain ⟨h1, h2⟩ := ht j hj
  by_cases c : rid j = k
  · rw [if_pos (h1.mpr c), h2 c, c, hg]
  · rw [if_neg (fun z => c (h1.mp z)), tc_G c]
theorem tot_W {H : ia_H} {x k o n : Nat} {C : aC} {V : aW} {g : Nat → ia_E} (ho : o + n ≤ 158) (ht : ∀ j, j < 158 → (o ≤ j ∧ j < o + n ↔ rid j = 17 + k) ∧ (rid j = 17 + k → rloc j = j - o)) (hg : ∀ l, tcell x (uW C k V) (17 + k) l = g l) : ia_put (tot H x C) (x + o) n g = tot H x (uW C k V) := by
  refine put_sub ho fun j hj => ?_
  obtain ⟨h1, h2⟩ := ht j hj
  by_cases c : rid j = 17 + k
  · rw [if_pos (h1.mpr c), h2 c, c, hg]
  · rw [if_neg (fun z => c (h1.mp z)), tc_W c]
section TT
variable {H : ia_H} {x : Nat} {C : aC} {V : aG}
theorem tt0 : pN (tot H x C) (x + 0) V = tot H x (uG C 0 V) := tot_G (by decide) (by decide +kernel) (fun l => rfl)
theorem tt1 : pS (tot H x C) (x + 2) V = tot H x (uG C 1 V) := tot_G (by decide) (by decide +kernel) (fun l => rfl)
theorem tt2 : pL (tot H x C) (x + 20) V = tot H x (uG C 2 V) := tot_G (by decide) (by decide +kernel) (fun l => rfl)
theorem tt3 : pQ (tot H x C) (x + 53) V = tot H x (uG C 3 V) := tot_G (by decide) (by decide +kernel) (fun l => rfl)
theorem tt4 : pS (tot H x C) (x + 54) V = tot H x (uG C 4 V) := tot_G (by decide) (by decide +kernel) (fun l => rfl)
theorem tt5 : pL (tot H x C) (x + 72) V = tot H x (uG C 5 V) := tot_G (by decide) (by decide +kernel) (fun l => rfl)
theorem tt6 : pT (tot H x C) (x + 79) V = tot H x (uG C 6 V) := tot_G (by decide) (by decide +kernel) (fun l => rfl)
theorem tt7 : ia_put (tot H x C) (x + 82) 1 (cV V) = tot H x (uG C 7 V) := tot_G (by decide) (by decide +kernel) (fun l => rfl)
theorem tt8 : pE (tot H x C) (x + 83) V = tot H x (uG C 8 V) := tot_G (by decide) (by decide +kernel) (fun l => rfl)
theorem tt9 : pS (tot H x C) (x + 84) V = tot H x (uG C 9 V) := tot_G (by decide) (by decide +kernel) (fun l => rfl)
theorem tt10 : pL (tot H x C) (x + 102) V = tot H x (uG C 10 V) := tot_G (by decide) (by decide +kernel) (fun l => rfl)
theorem tt11 : pF (tot H x C) (x + 109) V = tot H x (uG C 11 V) := tot_G (by decide) (by decide +kernel) (fun l => rfl)
theorem tt12 : pE (tot H x C) (x + 123) V = tot H x (uG C 12 V) := tot_G (by decide) (by decide +kernel) (fun l => rfl)
theorem tt13 : pS (tot H x C) (x + 124) V = tot H x (uG C 13 V) := tot_G (by decide) (by decide +kernel) (fun l => rfl)
theorem tt14 : pL (tot H x C) (x + 142) V = tot H x (uG C 14 V) := tot_G (by decide) (by decide +kernel) (fun l => rfl)
theorem tt15 : pU (tot H x C) (x + 149) V = tot H x (uG C 15 V) := tot_G (by decide) (by decide +kernel) (fun l => rfl)
theorem tt16 : pD (tot H x C) (x + 154) V = tot H x (uG C 16 V) := tot_G (by decide) (by decide +kernel) (fun l => rfl)
theorem tw0 {V : aW} : pW (tot H x C) (x + 7) V = tot H x (uW C 0 V) := tot_W (by decide) (by decide +kernel) (fun l => rfl)
theorem tw1 {V : aW} : pW (tot H x C) (x + 27) V = tot H x (uW C 1 V) := tot_W (by decide) (by decide +kernel) (fun l => rfl)
theorem tw2 {V : aW} : pW (tot H x C) (x + 40) V = tot H x (uW C 2 V) := tot_W (by decide) (by decide +kernel) (fun l => rfl)
theorem tw3 {V : aW} : pW (tot H x C) (x + 59) V = tot H x (uW C 3 V) := tot_W (by decide) (by decide +kernel) (fun l => rfl)
theorem tw4 {V : aW} : pW (tot H x C) (x + 89) V = tot H x (uW C 4 V) := tot_W (by decide) (by decide +kernel) (fun l => rfl)
theorem tw5 {V : aW} : pW (tot H x C) (x + 110) V = tot H x (uW C 5 V) := tot_W (by decide) (by decide +kernel) (fun l => rfl)
theorem tw6 {V : aW} : pW (tot H x C) (x + 129) V = tot H x (uW C 6 V) := tot_W (by decide) (by decide +kernel) (fun l => rfl)
theorem tq_N : pN (tot H x C) x V = tot H x (uG C 0 V) := tt0
theorem tq_S {σ : Bool} : pS (tot H x C) (sd x σ) V = tot H x (uG C (kS σ) V) := by
  cases σ
  · exact tt1
  · exact tt4
theorem tq_L {σ : Bool} : pL (tot H x C) (sd x σ + 18) V = tot H x (uG C (kL σ) V) := by
  cases σ
  · exact tt2
  · exact tt5
theorem tq_Q : pQ (tot H x C) (x + 53) V = tot H x (uG C 3 V) := tt3
theorem tq_T : pT (tot H x C) (x + 79) V = tot H x (uG C 6 V) := tt6
theorem tq_V : ia_put (tot H x C) (x + 82) 1 (cV V) = tot H x (uG C 7 V) := tt7
theorem tq_E {ε : Bool} : pE (tot H x C) (ed x ε) V = tot H x (uG C (kE ε) V) := by
  cases ε
  · exact tt8
  · exact tt12
theorem tq_F : pF (tot H x C) (x + 109) V = tot H x (uG C 11 V) := tt11
theorem tq_U : pU (tot H x C) (x + 149) V = tot H x (uG C 15 V) := tt15
theorem tq_D : pD (tot H x C) (x + 154) V = tot H x (uG C 16 V) := tt16
theorem tq_W {k : Nat} (hk : k < 7) {V : aW} : pW (tot H x C) (wA x k) V = tot H x (uW C k V) := by
  match k, hk with
  | 0, _ => exact tw0
  | 1, _ => exact tw1
  | 2, _ => exact tw2
  | 3, _ => exact tw3
  | 4, _ => exact tw4
  | 5, _ => exact tw5
  | 6, _ => exact tw6
end TT
/-- what no call changes but text(): who holds whom -/
def fx (x : Nat) (C : aC) (σ : Bool) : Prop := ((C.1 0).2.2.2.2 0 = sd x σ ∧ (C.1 0).2.2.2.2 1 = wA x 1 ∧ (C.1 0).2.2.2.2 2 = wA x 2 ∧ (C.1 0).2.2.2.2 3 = x + 53 ∧ (C.1 0).2.2.2.2 4 = ed x false ∧ (C.1 0).2.2.2.2 5 = x + 109 ∧ (C.1 0).2.2.2.2 6 = x + 149 ∧ (C.1 0).2.2.2.2 7 = x + 154) ∧ ((C.1 3).2.2.2.2 0 = sd x (!σ) ∧ (C.1 3).2.2.2.2 1 = x + 79 ∧ (C.1 3).2.2.2.2 2 = x + 82) ∧ ((C.1 11).2.2.2.2 0 = wA x 5 ∧ (C.1 11).2.2.2.2 1 = ed x true) ∧ ∀ τ, (C.1 (kS τ)).2.2.2.2 0 = wA x (kF τ) ∧ (C.1 (kS τ)).2.2.2.2 1 = sd x τ + 18
section TB
variable {H : ia_H} {x : Nat} {C : aC}
theorem tN_clsb : ∀ A B : Option ia_R, (if ia_cls (tot H x C) x = 9 then A else B) = A := by
  have this := pN_clsb (h := tot H x C) (a := x) (X := (C.1 0))
  simp only [tq_N, uG_id] at this
  exact this
theorem tN_Ib : (∀ f : Int32 → Option ia_R, (ia_getI (tot H x C) x 9 1).bind f = f ((C.1 0).1 0)) ∧ (∀ f : Int32 → Option ia_R, (ia_getI (tot H x C) x 9 5).bind f = f ((C.1 0).1 1)) := by
  have this := pN_Ib (h := tot H x C) (a := x) (X := (C.1 0))
  simp only [tq_N, uG_id] at this
  exact this
theorem tN_ldb : ∀ (i : Int32) (f : Int32 → Option ia_R), (ia_ald (tot H x C) (x + 1) 1 i).bind f = (rd ((C.1 0).2.1 0) i).bind f := by
  have this := pN_ldb (h := tot H x C) (a := x) (X := (C.1 0))
  simp only [tq_N, uG_id] at this
  exact this
theorem tN_stb : ∀ (i : Int32) (y : Int32) (f : ia_H → Option ia_R), (ia_ast (tot H x C) (x + 1) 1 i y).bind f = (wr ((C.1 0).2.1 0) i y).bind fun l => f (tot H x (uG C 0 (gA (C.1 0) 0 l))) := by
  have this := pN_stb (h := tot H x C) (a := x) (X := (C.1 0))
  simp only [tq_N, uG_id] at this
  exact this
theorem tN_pfb : (∀ (v : Int32) (f : ia_H → Option ia_R), (ia_putf (tot H x C) x 9 1 (.int v)).bind f = f (tot H x (uG C 0 (gI (C.1 0) 0 v)))) ∧ (∀ (v : Int32) (f : ia_H → Option ia_R), (ia_putf (tot H x C) x 9 5 (.int v)).bind f = f (tot H x (uG C 0 (gI (C.1 0) 1 v)))) ∧ (∀ (v : Nat) (f : ia_H → Option ia_R), (ia_putf (tot H x C) x 9 2 (.ref v)).bind f = f (tot H x (uG C 0 (gR (C.1 0) 0 v)))) ∧ (∀ (v : Nat) (f : ia_H → Option ia_R), (ia_putf (tot H x C) x 9 3 (.ref v)).bind f = f (tot H x (uG C 0 (gR (C.1 0) 1 v)))) ∧ (∀ (v : Nat) (f : ia_H → Option ia_R), (ia_putf (tot H x C) x 9 4 (.ref v)).bind f = f (tot H x (uG C 0 (gR (C.1 0) 2 v)))) ∧ (∀ (v : Nat) (f : ia_H → Option ia_R), (ia_putf (tot H x C) x 9 6 (.ref v)).bind f = f (tot H x (uG C 0 (gR (C.1 0) 3 v)))) ∧ (∀ (v : Nat) (f : ia_H → Option ia_R), (ia_putf (tot H x C) x 9 7 (.ref v)).bind f = f (tot H x (uG C 0 (gR (C.1 0) 4 v)))) ∧ (∀ (v : Nat) (f : ia_H → Option ia_R), (ia_putf (tot H x C) x 9 8 (.ref v)).bind f = f (tot H x (uG C 0 (gR (C.1 0) 5 v)))) ∧ (∀ (v : Nat) (f : ia_H → Option ia_R), (ia_putf (tot H x C) x 9 9 (.ref v)).bind f = f (tot H x (uG C 0 (gR (C.1 0) 6 v)))) ∧ (∀ (v : Nat) (f : ia_H → Option ia_R), (ia_putf (tot H x C) x 9 10 (.ref v)).bind f = f (tot H x (uG C 0 (gR (C.1 0) 7 v)))) := by
  have this := pN_pfb (h := tot H x C) (a := x) (X := (C.1 0))
  simp only [tq_N, uG_id] at this
  exact this
theorem tS_clsb {σ : Bool} : ∀ A B : Option ia_R, (if ia_cls (tot H x C) (sd x σ) = 6 then A else B) = A := by
  have this := pS_clsb (h := tot H x C) (a := (sd x σ)) (X := (C.1 (kS σ)))
  simp only [tq_S, uG_id] at this
  exact this
theorem tS_Ib {σ : Bool} : (∀ f : Int32 → Option ia_R, (ia_getI (tot H x C) (sd x σ) 6 0).bind f = f ((C.1 (kS σ)).1 0)) ∧ (∀ f : Int32 → Option ia_R, (ia_getI (tot H x C) (sd x σ) 6 3).bind f = f ((C.1 (kS σ)).1 1)) ∧ (∀ f : Int32 → Option ia_R, (ia_getI (tot H x C) (sd x σ) 6 6).bind f = f ((C.1 (kS σ)).1 2)) ∧ (∀ f : Int32 → Option ia_R, (ia_getI (tot H x C) (sd x σ) 6 7).bind f = f ((C.1 (kS σ)).1 3)) ∧ (∀ f : Int32 → Option ia_R, (ia_getI (tot H x C) (sd x σ) 6 8).bind f = f ((C.1 (kS σ)).1 4)) := by
  have this := pS_Ib (h := tot H x C) (a := (sd x σ)) (X := (C.1 (kS σ)))
  simp only [tq_S, uG_id] at this
  exact this
theorem tS_ldb {σ : Bool} : (∀ (i : Int32) (f : Int32 → Option ia_R), (ia_ald (tot H x C) ((sd x σ) + 1) 0 i).bind f = (rd ((C.1 (kS σ)).2.1 0) i).bind f) ∧ (∀ (i : Int32) (f : Int32 → Option ia_R), (ia_ald (tot H x C) ((sd x σ) + 2) 0 i).bind f = (rd ((C.1 (kS σ)).2.1 1) i).bind f) ∧ (∀ (i : Int32) (f : Int32 → Option ia_R), (ia_ald (tot H x C) ((sd x σ) + 3) 0 i).bind f = (rd ((C.1 (kS σ)).2.1 2) i).bind f) ∧ (∀ (i : Int32) (f : Int32 → Option ia_R), (ia_ald (tot H x C) ((sd x σ) + 4) 0 i).bind f = (rd ((C.1 (kS σ)).2.1 3) i).bind f) := by
  have this := pS_ldb (h := tot H x C) (a := (sd x σ)) (X := (C.1 (kS σ)))
  simp only [tq_S, uG_id] at this
  exact this
theorem tS_stb {σ : Bool} : (∀ (i : Int32) (y : Int32) (f : ia_H → Option ia_R), (ia_ast (tot H x C) ((sd x σ) + 1) 0 i y).bind f = (wr ((C.1 (kS σ)).2.1 0) i y).bind fun l => f (tot H x (uG C (kS σ) (gA (C.1 (kS σ)) 0 l)))) ∧ (∀ (i : Int32) (y : Int32) (f : ia_H → Option ia_R), (ia_ast (tot H x C) ((sd x σ) + 2) 0 i y).bind f = (wr ((C.1 (kS σ)).2.1 1) i y).bind fun l => f (tot H x (uG C (kS σ) (gA (C.1 (kS σ)) 1 l)))) ∧ (∀ (i : Int32) (y : Int32) (f : ia_H → Option ia_R), (ia_ast (tot H x C) ((sd x σ) + 3) 0 i y).bind f = (wr ((C.1 (kS σ)).2.1 2) i y).bind fun l => f (tot H x (uG C (kS σ) (gA (C.1 (kS σ)) 2 l)))) ∧ (∀ (i : Int32) (y : Int32) (f : ia_H → Option ia_R), (ia_ast (tot H x C) ((sd x σ) + 4) 0 i y).bind f = (wr ((C.1 (kS σ)).2.1 3) i y).bind fun l => f (tot H x (uG C (kS σ) (gA (C.1 (kS σ)) 3 l)))) := by
  have this := pS_stb (h := tot H x C) (a := (sd x σ)) (X := (C.1 (kS σ)))
  simp only [tq_S, uG_id] at this
  exact this
theorem tS_pfb {σ : Bool} : (∀ (v : Int32) (f : ia_H → Option ia_R), (ia_putf (tot H x C) (sd x σ) 6 0 (.int v)).bind f = f (tot H x (uG C (kS σ) (gI (C.1 (kS σ)) 0 v)))) ∧ (∀ (v : Int32) (f : ia_H → Option ia_R), (ia_putf (tot H x C) (sd x σ) 6 3 (.int v)).bind f = f (tot H x (uG C (kS σ) (gI (C.1 (kS σ)) 1 v)))) ∧ (∀ (v : Int32) (f : ia_H → Option ia_R), (ia_putf (tot H x C) (sd x σ) 6 6 (.int v)).bind f = f (tot H x (uG C (kS σ) (gI (C.1 (kS σ)) 2 v)))) ∧ (∀ (v : Int32) (f : ia_H → Option ia_R), (ia_putf (tot H x C) (sd x σ) 6 7 (.int v)).bind f = f (tot H x (uG C (kS σ) (gI (C.1 (kS σ)) 3 v)))) ∧ (∀ (v : Int32) (f : ia_H → Option ia_R), (ia_putf (tot H x C) (sd x σ) 6 8 (.int v)).bind f = f (tot H x (uG C (kS σ) (gI (C.1 (kS σ)) 4 v)))) ∧ (∀ (v : Nat) (f : ia_H → Option ia_R), (ia_putf (tot H x C) (sd x σ) 6 9 (.ref v)).bind f = f (tot H x (uG C (kS σ) (gR (C.1 (kS σ)) 0 v)))) ∧ (∀ (v : Nat) (f : ia_H → Option ia_R), (ia_putf (tot H x C) (sd x σ) 6 10 (.ref v)).bind f = f (tot H x (uG C (kS σ) (gR (C.1 (kS σ)) 1 v)))) := by
  have this := pS_pfb (h := tot H x C) (a := (sd x σ)) (X := (C.1 (kS σ)))
  simp only [tq_S, uG_id] at this
  exact this
theorem tL_clsb {σ : Bool} : ∀ A B : Option ia_R, (if ia_cls (tot H x C) (sd x σ + 18) = 3 then A else B) = A := by
  have this := pL_clsb (h := tot H x C) (a := (sd x σ + 18)) (X := (C.1 (kL σ)))
  simp only [tq_L, uG_id] at this
  exact this
theorem tL_Ib {σ : Bool} : (∀ f : Int32 → Option ia_R, (ia_getI (tot H x C) (sd x σ + 18) 3 0).bind f = f ((C.1 (kL σ)).1 0)) ∧ (∀ f : Int32 → Option ia_R, (ia_getI (tot H x C) (sd x σ + 18) 3 1).bind f = f ((C.1 (kL σ)).1 1)) := by
  have this := pL_Ib (h := tot H x C) (a := (sd x σ + 18)) (X := (C.1 (kL σ)))
  simp only [tq_L, uG_id] at this
  exact this
theorem tL_Rb {σ : Bool} : (∀ f : Nat → Option ia_R, (ia_getR (tot H x C) (sd x σ + 18) 3 2).bind f = f ((sd x σ + 18) + 1)) ∧ (∀ f : Nat → Option ia_R, (ia_getR (tot H x C) (sd x σ + 18) 3 3).bind f = f ((sd x σ + 18) + 2)) ∧ (∀ f : Nat → Option ia_R, (ia_getR (tot H x C) (sd x σ + 18) 3 4).bind f = f ((sd x σ + 18) + 3)) ∧ (∀ f : Nat → Option ia_R, (ia_getR (tot H x C) (sd x σ + 18) 3 5).bind f = f ((sd x σ + 18) + 4)) ∧ (∀ f : Nat → Option ia_R, (ia_getR (tot H x C) (sd x σ + 18) 3 6).bind f = f ((sd x σ + 18) + 5)) ∧ (∀ f : Nat → Option ia_R, (ia_getR (tot H x C) (sd x σ + 18) 3 7).bind f = f ((sd x σ + 18) + 6)) := by
  have this := pL_Rb (h := tot H x C) (a := (sd x σ + 18)) (X := (C.1 (kL σ)))
  simp only [tq_L, uG_id] at this
  exact this
theorem tL_ldb {σ : Bool} : (∀ (i : Int32) (f : Int32 → Option ia_R), (ia_ald (tot H x C) ((sd x σ + 18) + 1) 0 i).bind f = (rd ((C.1 (kL σ)).2.1 0) i).bind f) ∧ (∀ (i : Int32) (f : Int32 → Option ia_R), (ia_ald (tot H x C) ((sd x σ + 18) + 2) 0 i).bind f = (rd ((C.1 (kL σ)).2.1 1) i).bind f) ∧ (∀ (i : Int32) (f : Int32 → Option ia_R), (ia_ald (tot H x C) ((sd x σ + 18) + 3) 0 i).bind f = (rd ((C.1 (kL σ)).2.1 2) i).bind f) ∧ (∀ (i : Int32) (f : Int32 → Option ia_R), (ia_ald (tot H x C) ((sd x σ + 18) + 4) 0 i).bind f = (rd ((C.1 (kL σ)).2.1 3) i).bind f) := by
  have this := pL_ldb (h := tot H x C) (a := (sd x σ + 18)) (X := (C.1 (kL σ)))
  simp only [tq_L, uG_id] at this
  exact this
theorem tL_llb {σ : Bool} : (∀ (i : Int32) (f : Int64 → Option ia_R), (ia_lald (tot H x C) ((sd x σ + 18) + 5) i).bind f = (rd ((C.1 (kL σ)).2.2.2.1 0) i).bind f) ∧ (∀ (i : Int32) (f : Int64 → Option ia_R), (ia_lald (tot H x C) ((sd x σ + 18) + 6) i).bind f = (rd ((C.1 (kL σ)).2.2.2.1 1) i).bind f) := by
  have this := pL_llb (h := tot H x C) (a := (sd x σ + 18)) (X := (C.1 (kL σ)))
  simp only [tq_L, uG_id] at this
  exact this
theorem tL_stb {σ : Bool} : (∀ (i : Int32) (y : Int32) (f : ia_H → Option ia_R), (ia_ast (tot H x C) ((sd x σ + 18) + 1) 0 i y).bind f = (wr ((C.1 (kL σ)).2.1 0) i y).bind fun l => f (tot H x (uG C (kL σ) (gA (C.1 (kL σ)) 0 l)))) ∧ (∀ (i : Int32) (y : Int32) (f : ia_H → Option ia_R), (ia_ast (tot H x C) ((sd x σ + 18) + 2) 0 i y).bind f = (wr ((C.1 (kL σ)).2.1 1) i y).bind fun l => f (tot H x (uG C (kL σ) (gA (C.1 (kL σ)) 1 l)))) ∧ (∀ (i : Int32) (y : Int32) (f : ia_H → Option ia_R), (ia_ast (tot H x C) ((sd x σ + 18) + 3) 0 i y).bind f = (wr ((C.1 (kL σ)).2.1 2) i y).bind fun l => f (tot H x (uG C (kL σ) (gA (C.1 (kL σ)) 2 l)))) ∧ (∀ (i : Int32) (y : Int32) (f : ia_H → Option ia_R), (ia_ast (tot H x C) ((sd x σ + 18) + 4) 0 i y).bind f = (wr ((C.1 (kL σ)).2.1 3) i y).bind fun l => f (tot H x (uG C (kL σ) (gA (C.1 (kL σ)) 3 l)))) := by
  have this := pL_stb (h := tot H x C) (a := (sd x σ + 18)) (X := (C.1 (kL σ)))
  simp only [tq_L, uG_id] at this
  exact this
theorem tL_lsb {σ : Bool} : (∀ (i : Int32) (y : Int64) (f : ia_H → Option ia_R), (ia_last (tot H x C) ((sd x σ + 18) + 5) i y).bind f = (wr ((C.1 (kL σ)).2.2.2.1 0) i y).bind fun l => f (tot H x (uG C (kL σ) (gB (C.1 (kL σ)) 0 l)))) ∧ (∀ (i : Int32) (y : Int64) (f : ia_H → Option ia_R), (ia_last (tot H x C) ((sd x σ + 18) + 6) i y).bind f = (wr ((C.1 (kL σ)).2.2.2.1 1) i y).bind fun l => f (tot H x (uG C (kL σ) (gB (C.1 (kL σ)) 1 l)))) := by
  have this := pL_lsb (h := tot H x C) (a := (sd x σ + 18)) (X := (C.1 (kL σ)))
  simp only [tq_L, uG_id] at this
  exact this
theorem tL_pfb {σ : Bool} : (∀ (v : Int32) (f : ia_H → Option ia_R), (ia_putf (tot H x C) (sd x σ + 18) 3 0 (.int v)).bind f = f (tot H x (uG C (kL σ) (gI (C.1 (kL σ)) 0 v)))) ∧ (∀ (v : Int32) (f : ia_H → Option ia_R), (ia_putf (tot H x C) (sd x σ + 18) 3 1 (.int v)).bind f = f (tot H x (uG C (kL σ) (gI (C.1 (kL σ)) 1 v)))) := by
  have this := pL_pfb (h := tot H x C) (a := (sd x σ + 18)) (X := (C.1 (kL σ)))
  simp only [tq_L, uG_id] at this
  exact this
theorem tQ_clsb : ∀ A B : Option ia_R, (if ia_cls (tot H x C) (x + 53) = 4 then A else B) = A := by
  have this := pQ_clsb (h := tot H x C) (a := (x + 53)) (X := (C.1 3))
  simp only [tq_Q, uG_id] at this
  exact this
theorem tQ_Ib : (∀ f : Int32 → Option ia_R, (ia_getI (tot H x C) (x + 53) 4 0).bind f = f ((C.1 3).1 0)) ∧ (∀ f : Int32 → Option ia_R, (ia_getI (tot H x C) (x + 53) 4 1).bind f = f ((C.1 3).1 1)) ∧ (∀ f : Int32 → Option ia_R, (ia_getI (tot H x C) (x + 53) 4 2).bind f = f ((C.1 3).1 2)) ∧ (∀ f : Int32 → Option ia_R, (ia_getI (tot H x C) (x + 53) 4 6).bind f = f ((C.1 3).1 3)) ∧ (∀ f : Int32 → Option ia_R, (ia_getI (tot H x C) (x + 53) 4 7).bind f = f ((C.1 3).1 4)) := by
  have this := pQ_Ib (h := tot H x C) (a := (x + 53)) (X := (C.1 3))
  simp only [tq_Q, uG_id] at this
  exact this
theorem tQ_pfb : (∀ (v : Int32) (f : ia_H → Option ia_R), (ia_putf (tot H x C) (x + 53) 4 0 (.int v)).bind f = f (tot H x (uG C 3 (gI (C.1 3) 0 v)))) ∧ (∀ (v : Int32) (f : ia_H → Option ia_R), (ia_putf (tot H x C) (x + 53) 4 1 (.int v)).bind f = f (tot H x (uG C 3 (gI (C.1 3) 1 v)))) ∧ (∀ (v : Int32) (f : ia_H → Option ia_R), (ia_putf (tot H x C) (x + 53) 4 2 (.int v)).bind f = f (tot H x (uG C 3 (gI (C.1 3) 2 v)))) ∧ (∀ (v : Int32) (f : ia_H → Option ia_R), (ia_putf (tot H x C) (x + 53) 4 6 (.int v)).bind f = f (tot H x (uG C 3 (gI (C.1 3) 3 v)))) ∧ (∀ (v : Int32) (f : ia_H → Option ia_R), (ia_putf (tot H x C) (x + 53) 4 7 (.int v)).bind f = f (tot H x (uG C 3 (gI (C.1 3) 4 v)))) ∧ (∀ (v : Nat) (f : ia_H → Option ia_R), (ia_putf (tot H x C) (x + 53) 4 3 (.ref v)).bind f = f (tot H x (uG C 3 (gR (C.1 3) 0 v)))) ∧ (∀ (v : Nat) (f : ia_H → Option ia_R), (ia_putf (tot H x C) (x + 53) 4 4 (.ref v)).bind f = f (tot H x (uG C 3 (gR (C.1 3) 1 v)))) ∧ (∀ (v : Nat) (f : ia_H → Option ia_R), (ia_putf (tot H x C) (x + 53) 4 5 (.ref v)).bind f = f (tot H x (uG C 3 (gR (C.1 3) 2 v)))) := by
  have this := pQ_pfb (h := tot H x C) (a := (x + 53)) (X := (C.1 3))
  simp only [tq_Q, uG_id] at this
  exact this
theorem tT_clsb : ∀ A B : Option ia_R, (if ia_cls (tot H x C) (x + 79) = 7 then A else B) = A := by
  have this := pT_clsb (h := tot H x C) (a := (x + 79)) (X := (C.1 6))
  simp only [tq_T, uG_id] at this
  exact this
theorem tT_Ib : (∀ f : Int32 → Option ia_R, (ia_getI (tot H x C) (x + 79) 7 0).bind f = f ((C.1 6).1 0)) ∧ (∀ f : Int32 → Option ia_R, (ia_getI (tot H x C) (x + 79) 7 1).bind f = f ((C.1 6).1 1)) ∧ (∀ f : Int32 → Option ia_R, (ia_getI (tot H x C) (x + 79) 7 2).bind f = f ((C.1 6).1 2)) ∧ (∀ f : Int32 → Option ia_R, (ia_getI (tot H x C) (x + 79) 7 4).bind f = f ((C.1 6).1 3)) ∧ (∀ f : Int32 → Option ia_R, (ia_getI (tot H x C) (x + 79) 7 5).bind f = f ((C.1 6).1 4)) := by
  have this := pT_Ib (h := tot H x C) (a := (x + 79)) (X := (C.1 6))
  simp only [tq_T, uG_id] at this
  exact this
theorem tT_Rb : (∀ f : Nat → Option ia_R, (ia_getR (tot H x C) (x + 79) 7 3).bind f = f ((C.1 6).2.2.2.2 0)) ∧ (∀ f : Nat → Option ia_R, (ia_getR (tot H x C) (x + 79) 7 6).bind f = f ((x + 79) + 2)) := by
  have this := pT_Rb (h := tot H x C) (a := (x + 79)) (X := (C.1 6))
  simp only [tq_T, uG_id] at this
  exact this
theorem tT_ldb : (∀ (i : Int32) (f : Int32 → Option ia_R), (ia_ald (tot H x C) ((x + 79) + 1) 1 i).bind f = (rd ((C.1 6).2.1 0) i).bind f) ∧ (∀ (i : Int32) (f : Int32 → Option ia_R), (ia_ald (tot H x C) ((x + 79) + 2) 0 i).bind f = (rd ((C.1 6).2.1 1) i).bind f) := by
  have this := pT_ldb (h := tot H x C) (a := (x + 79)) (X := (C.1 6))
  simp only [tq_T, uG_id] at this
  exact this
theorem tT_stb : (∀ (i : Int32) (y : Int32) (f : ia_H → Option ia_R), (ia_ast (tot H x C) ((x + 79) + 1) 1 i y).bind f = (wr ((C.1 6).2.1 0) i y).bind fun l => f (tot H x (uG C 6 (gA (C.1 6) 0 l)))) ∧ (∀ (i : Int32) (y : Int32) (f : ia_H → Option ia_R), (ia_ast (tot H x C) ((x + 79) + 2) 0 i y).bind f = (wr ((C.1 6).2.1 1) i y).bind fun l => f (tot H x (uG C 6 (gA (C.1 6) 1 l)))) := by
  have this := pT_stb (h := tot H x C) (a := (x + 79)) (X := (C.1 6))
  simp only [tq_T, uG_id] at this
  exact this
theorem tT_pfb : (∀ (v : Int32) (f : ia_H → Option ia_R), (ia_putf (tot H x C) (x + 79) 7 0 (.int v)).bind f = f (tot H x (uG C 6 (gI (C.1 6) 0 v)))) ∧ (∀ (v : Int32) (f : ia_H → Option ia_R), (ia_putf (tot H x C) (x + 79) 7 1 (.int v)).bind f = f (tot H x (uG C 6 (gI (C.1 6) 1 v)))) ∧ (∀ (v : Int32) (f : ia_H → Option ia_R), (ia_putf (tot H x C) (x + 79) 7 2 (.int v)).bind f = f (tot H x (uG C 6 (gI (C.1 6) 2 v)))) ∧ (∀ (v : Int32) (f : ia_H → Option ia_R), (ia_putf (tot H x C) (x + 79) 7 4 (.int v)).bind f = f (tot H x (uG C 6 (gI (C.1 6) 3 v)))) ∧ (∀ (v : Int32) (f : ia_H → Option ia_R), (ia_putf (tot H x C) (x + 79) 7 5 (.int v)).bind f = f (tot H x (uG C 6 (gI (C.1 6) 4 v)))) ∧ (∀ (v : Nat) (f : ia_H → Option ia_R), (ia_putf (tot H x C) (x + 79) 7 3 (.ref v)).bind f = f (tot H x (uG C 6 (gR (C.1 6) 0 v)))) := by
  have this := pT_pfb (h := tot H x C) (a := (x + 79)) (X := (C.1 6))
  simp only [tq_T, uG_id] at this
  exact this
theorem tE_clsb {ε : Bool} : ∀ A B : Option ia_R, (if ia_cls (tot H x C) (ed x ε) = 1 then A else B) = A := by
  have this := pE_clsb (h := tot H x C) (a := (ed x ε)) (X := (C.1 (kE ε)))
  simp only [tq_E, uG_id] at this
  exact this
theorem tE_Ib {ε : Bool} : (∀ f : Int32 → Option ia_R, (ia_getI (tot H x C) (ed x ε) 1 1).bind f = f ((C.1 (kE ε)).1 0)) ∧ (∀ f : Int32 → Option ia_R, (ia_getI (tot H x C) (ed x ε) 1 2).bind f = f ((C.1 (kE ε)).1 1)) ∧ (∀ f : Int32 → Option ia_R, (ia_getI (tot H x C) (ed x ε) 1 3).bind f = f ((C.1 (kE ε)).1 2)) ∧ (∀ f : Int32 → Option ia_R, (ia_getI (tot H x C) (ed x ε) 1 4).bind f = f ((C.1 (kE ε)).1 3)) ∧ (∀ f : Int32 → Option ia_R, (ia_getI (tot H x C) (ed x ε) 1 5).bind f = f ((C.1 (kE ε)).1 4)) := by
  have this := pE_Ib (h := tot H x C) (a := (ed x ε)) (X := (C.1 (kE ε)))
  simp only [tq_E, uG_id] at this
  exact this
theorem tE_Jb {ε : Bool} : ∀ f : Int64 → Option ia_R, (ia_getL (tot H x C) (ed x ε) 1 6).bind f = f ((C.1 (kE ε)).2.2.1 0) := by
  have this := pE_Jb (h := tot H x C) (a := (ed x ε)) (X := (C.1 (kE ε)))
  simp only [tq_E, uG_id] at this
  exact this
theorem tE_Rb {ε : Bool} : ∀ f : Nat → Option ia_R, (ia_getR (tot H x C) (ed x ε) 1 0).bind f = f ((C.1 (kE ε)).2.2.2.2 0) := by
  have this := pE_Rb (h := tot H x C) (a := (ed x ε)) (X := (C.1 (kE ε)))
  simp only [tq_E, uG_id] at this
  exact this
theorem tE_pfb {ε : Bool} : (∀ (v : Int32) (f : ia_H → Option ia_R), (ia_putf (tot H x C) (ed x ε) 1 1 (.int v)).bind f = f (tot H x (uG C (kE ε) (gI (C.1 (kE ε)) 0 v)))) ∧ (∀ (v : Int32) (f : ia_H → Option ia_R), (ia_putf (tot H x C) (ed x ε) 1 2 (.int v)).bind f = f (tot H x (uG C (kE ε) (gI (C.1 (kE ε)) 1 v)))) ∧ (∀ (v : Int32) (f : ia_H → Option ia_R), (ia_putf (tot H x C) (ed x ε) 1 3 (.int v)).bind f = f (tot H x (uG C (kE ε) (gI (C.1 (kE ε)) 2 v)))) ∧ (∀ (v : Int32) (f : ia_H → Option ia_R), (ia_putf (tot H x C) (ed x ε) 1 4 (.int v)).bind f = f (tot H x (uG C (kE ε) (gI (C.1 (kE ε)) 3 v)))) ∧ (∀ (v : Int32) (f : ia_H → Option ia_R), (ia_putf (tot H x C) (ed x ε) 1 5 (.int v)).bind f = f (tot H x (uG C (kE ε) (gI (C.1 (kE ε)) 4 v)))) ∧ (∀ (v : Int64) (f : ia_H → Option ia_R), (ia_putf (tot H x C) (ed x ε) 1 6 (.long v)).bind f = f (tot H x (uG C (kE ε) (gJ (C.1 (kE ε)) 0 v)))) ∧ (∀ (v : Nat) (f : ia_H → Option ia_R), (ia_putf (tot H x C) (ed x ε) 1 0 (.ref v)).bind f = f (tot H x (uG C (kE ε) (gR (C.1 (kE ε)) 0 v)))) := by
  have this := pE_pfb (h := tot H x C) (a := (ed x ε)) (X := (C.1 (kE ε)))
  simp only [tq_E, uG_id] at this
  exact this
theorem tF_clsb : ∀ A B : Option ia_R, (if ia_cls (tot H x C) (x + 109) = 2 then A else B) = A := by
  have this := pF_clsb (h := tot H x C) (a := (x + 109)) (X := (C.1 11))
  simp only [tq_F, uG_id] at this
  exact this
theorem tU_clsb : ∀ A B : Option ia_R, (if ia_cls (tot H x C) (x + 149) = 5 then A else B) = A := by
  have this := pU_clsb (h := tot H x C) (a := (x + 149)) (X := (C.1 15))
  simp only [tq_U, uG_id] at this
  exact this
theorem tU_Ib : (∀ f : Int32 → Option ia_R, (ia_getI (tot H x C) (x + 149) 5 0).bind f = f ((C.1 15).1 0)) ∧ (∀ f : Int32 → Option ia_R, (ia_getI (tot H x C) (x + 149) 5 1).bind f = f ((C.1 15).1 1)) := by
  have this := pU_Ib (h := tot H x C) (a := (x + 149)) (X := (C.1 15))
  simp only [tq_U, uG_id] at this
  exact this
theorem tU_Rb : (∀ f : Nat → Option ia_R, (ia_getR (tot H x C) (x + 149) 5 2).bind f = f ((x + 149) + 1)) ∧ (∀ f : Nat → Option ia_R, (ia_getR (tot H x C) (x + 149) 5 3).bind f = f ((x + 149) + 2)) ∧ (∀ f : Nat → Option ia_R, (ia_getR (tot H x C) (x + 149) 5 4).bind f = f ((x + 149) + 3)) ∧ (∀ f : Nat → Option ia_R, (ia_getR (tot H x C) (x + 149) 5 5).bind f = f ((x + 149) + 4)) := by
  have this := pU_Rb (h := tot H x C) (a := (x + 149)) (X := (C.1 15))
  simp only [tq_U, uG_id] at this
  exact this
theorem tU_ldb : (∀ (i : Int32) (f : Int32 → Option ia_R), (ia_ald (tot H x C) ((x + 149) + 1) 0 i).bind f = (rd ((C.1 15).2.1 0) i).bind f) ∧ (∀ (i : Int32) (f : Int32 → Option ia_R), (ia_ald (tot H x C) ((x + 149) + 2) 0 i).bind f = (rd ((C.1 15).2.1 1) i).bind f) ∧ (∀ (i : Int32) (f : Int32 → Option ia_R), (ia_ald (tot H x C) ((x + 149) + 3) 0 i).bind f = (rd ((C.1 15).2.1 2) i).bind f) ∧ (∀ (i : Int32) (f : Int32 → Option ia_R), (ia_ald (tot H x C) ((x + 149) + 4) 2 i).bind f = (rd ((C.1 15).2.1 3) i).bind f) := by
  have this := pU_ldb (h := tot H x C) (a := (x + 149)) (X := (C.1 15))
  simp only [tq_U, uG_id] at this
  exact this
theorem tU_stb : (∀ (i : Int32) (y : Int32) (f : ia_H → Option ia_R), (ia_ast (tot H x C) ((x + 149) + 1) 0 i y).bind f = (wr ((C.1 15).2.1 0) i y).bind fun l => f (tot H x (uG C 15 (gA (C.1 15) 0 l)))) ∧ (∀ (i : Int32) (y : Int32) (f : ia_H → Option ia_R), (ia_ast (tot H x C) ((x + 149) + 2) 0 i y).bind f = (wr ((C.1 15).2.1 1) i y).bind fun l => f (tot H x (uG C 15 (gA (C.1 15) 1 l)))) ∧ (∀ (i : Int32) (y : Int32) (f : ia_H → Option ia_R), (ia_ast (tot H x C) ((x + 149) + 3) 0 i y).bind f = (wr ((C.1 15).2.1 2) i y).bind fun l => f (tot H x (uG C 15 (gA (C.1 15) 2 l)))) ∧ (∀ (i : Int32) (y : Int32) (f : ia_H → Option ia_R), (ia_ast (tot H x C) ((x + 149) + 4) 2 i y).bind f = (wr ((C.1 15).2.1 3) i y).bind fun l => f (tot H x (uG C 15 (gA (C.1 15) 3 l)))) := by
  have this := pU_stb (h := tot H x C) (a := (x + 149)) (X := (C.1 15))
  simp only [tq_U, uG_id] at this
  exact this
theorem tU_pfb : (∀ (v : Int32) (f : ia_H → Option ia_R), (ia_putf (tot H x C) (x + 149) 5 0 (.int v)).bind f = f (tot H x (uG C 15 (gI (C.1 15) 0 v)))) ∧ (∀ (v : Int32) (f : ia_H → Option ia_R), (ia_putf (tot H x C) (x + 149) 5 1 (.int v)).bind f = f (tot H x (uG C 15 (gI (C.1 15) 1 v)))) := by
  have this := pU_pfb (h := tot H x C) (a := (x + 149)) (X := (C.1 15))
  simp only [tq_U, uG_id] at this
  exact this
theorem tD_clsb : ∀ A B : Option ia_R, (if ia_cls (tot H x C) (x + 154) = 0 then A else B) = A := by
  have this := pD_clsb (h := tot H x C) (a := (x + 154)) (X := (C.1 16))
  simp only [tq_D, uG_id] at this
  exact this
theorem tD_Ib : (∀ f : Int32 → Option ia_R, (ia_getI (tot H x C) (x + 154) 0 0).bind f = f ((C.1 16).1 0)) ∧ (∀ f : Int32 → Option ia_R, (ia_getI (tot H x C) (x + 154) 0 1).bind f = f ((C.1 16).1 1)) ∧ (∀ f : Int32 → Option ia_R, (ia_getI (tot H x C) (x + 154) 0 2).bind f = f ((C.1 16).1 2)) ∧ (∀ f : Int32 → Option ia_R, (ia_getI (tot H x C) (x + 154) 0 3).bind f = f ((C.1 16).1 3)) := by
  have this := pD_Ib (h := tot H x C) (a := (x + 154)) (X := (C.1 16))
  simp only [tq_D, uG_id] at this
  exact this
theorem tD_Rb : (∀ f : Nat → Option ia_R, (ia_getR (tot H x C) (x + 154) 0 4).bind f = f ((x + 154) + 1)) ∧ (∀ f : Nat → Option ia_R, (ia_getR (tot H x C) (x + 154) 0 5).bind f = f ((x + 154) + 2)) ∧ (∀ f : Nat → Option ia_R, (ia_getR (tot H x C) (x + 154) 0 6).bind f = f ((x + 154) + 3)) := by
  have this := pD_Rb (h := tot H x C) (a := (x + 154)) (X := (C.1 16))
  simp only [tq_D, uG_id] at this
  exact this
theorem tD_ldb : (∀ (i : Int32) (f : Int32 → Option ia_R), (ia_ald (tot H x C) ((x + 154) + 1) 0 i).bind f = (rd ((C.1 16).2.1 0) i).bind f) ∧ (∀ (i : Int32) (f : Int32 → Option ia_R), (ia_ald (tot H x C) ((x + 154) + 2) 0 i).bind f = (rd ((C.1 16).2.1 1) i).bind f) ∧ (∀ (i : Int32) (f : Int32 → Option ia_R), (ia_ald (tot H x C) ((x + 154) + 3) 0 i).bind f = (rd ((C.1 16).2.1 2) i).bind f) := by
  have this := pD_ldb (h := tot H x C) (a := (x + 154)) (X := (C.1 16))
  simp only [tq_D, uG_id] at this
  exact this
theorem tD_stb : (∀ (i : Int32) (y : Int32) (f : ia_H → Option ia_R), (ia_ast (tot H x C) ((x + 154) + 1) 0 i y).bind f = (wr ((C.1 16).2.1 0) i y).bind fun l => f (tot H x (uG C 16 (gA (C.1 16) 0 l)))) ∧ (∀ (i : Int32) (y : Int32) (f : ia_H → Option ia_R), (ia_ast (tot H x C) ((x + 154) + 2) 0 i y).bind f = (wr ((C.1 16).2.1 1) i y).bind fun l => f (tot H x (uG C 16 (gA (C.1 16) 1 l)))) ∧ (∀ (i : Int32) (y : Int32) (f : ia_H → Option ia_R), (ia_ast (tot H x C) ((x + 154) + 3) 0 i y).bind f = (wr ((C.1 16).2.1 2) i y).bind fun l => f (tot H x (uG C 16 (gA (C.1 16) 2 l)))) := by
  have this := pD_stb (h := tot H x C) (a := (x + 154)) (X := (C.1 16))
  simp only [tq_D, uG_id] at this
  exact this
theorem tD_pfb : (∀ (v : Int32) (f : ia_H → Option ia_R), (ia_putf (tot H x C) (x + 154) 0 0 (.int v)).bind f = f (tot H x (uG C 16 (gI (C.1 16) 0 v)))) ∧ (∀ (v : Int32) (f : ia_H → Option ia_R), (ia_putf (tot H x C) (x + 154) 0 1 (.int v)).bind f = f (tot H x (uG C 16 (gI (C.1 16) 1 v)))) ∧ (∀ (v : Int32) (f : ia_H → Option ia_R), (ia_putf (tot H x C) (x + 154) 0 2 (.int v)).bind f = f (tot H x (uG C 16 (gI (C.1 16) 2 v)))) ∧ (∀ (v : Int32) (f : ia_H → Option ia_R), (ia_putf (tot H x C) (x + 154) 0 3 (.int v)).bind f = f (tot H x (uG C 16 (gI (C.1 16) 3 v)))) := by
  have this := pD_pfb (h := tot H x C) (a := (x + 154)) (X := (C.1 16))
  simp only [tq_D, uG_id] at this
  exact this
theorem tW_clsb {k : Nat} (hk : k < 7) : ∀ A B : Option ia_R, (if ia_cls (tot H x C) (wA x k) = 8 then A else B) = A := by
  have this := pW_clsb (h := tot H x C) (a := (wA x k)) (X := (C.2 k))
  simp only [tq_W hk, uW_id] at this
  exact this
theorem tW_Ib {k : Nat} (hk : k < 7) : (∀ f : Int32 → Option ia_R, (ia_getI (tot H x C) (wA x k) 8 0).bind f = f ((C.2 k).1 0)) ∧ (∀ f : Int32 → Option ia_R, (ia_getI (tot H x C) (wA x k) 8 1).bind f = f ((C.2 k).1 1)) ∧ (∀ f : Int32 → Option ia_R, (ia_getI (tot H x C) (wA x k) 8 4).bind f = f ((C.2 k).1 2)) ∧ (∀ f : Int32 → Option ia_R, (ia_getI (tot H x C) (wA x k) 8 9).bind f = f ((C.2 k).1 3)) := by
  have this := pW_Ib (h := tot H x C) (a := (wA x k)) (X := (C.2 k))
  simp only [tq_W hk, uW_id] at this
  exact this
theorem tW_Rb {k : Nat} (hk : k < 7) : (∀ f : Nat → Option ia_R, (ia_getR (tot H x C) (wA x k) 8 2).bind f = f ((wA x k) + 1)) ∧ (∀ f : Nat → Option ia_R, (ia_getR (tot H x C) (wA x k) 8 3).bind f = f ((wA x k) + 2)) ∧ (∀ f : Nat → Option ia_R, (ia_getR (tot H x C) (wA x k) 8 5).bind f = f ((wA x k) + 3)) ∧ (∀ f : Nat → Option ia_R, (ia_getR (tot H x C) (wA x k) 8 6).bind f = f ((wA x k) + 4)) ∧ (∀ f : Nat → Option ia_R, (ia_getR (tot H x C) (wA x k) 8 7).bind f = f ((wA x k) + 5)) ∧ (∀ f : Nat → Option ia_R, (ia_getR (tot H x C) (wA x k) 8 8).bind f = f ((wA x k) + 6)) ∧ (∀ f : Nat → Option ia_R, (ia_getR (tot H x C) (wA x k) 8 10).bind f = f ((wA x k) + 7)) ∧ (∀ f : Nat → Option ia_R, (ia_getR (tot H x C) (wA x k) 8 11).bind f = f ((wA x k) + 8)) ∧ (∀ f : Nat → Option ia_R, (ia_getR (tot H x C) (wA x k) 8 12).bind f = f ((wA x k) + 9)) ∧ (∀ f : Nat → Option ia_R, (ia_getR (tot H x C) (wA x k) 8 13).bind f = f ((wA x k) + 10)) ∧ (∀ f : Nat → Option ia_R, (ia_getR (tot H x C) (wA x k) 8 14).bind f = f ((wA x k) + 11)) ∧ (∀ f : Nat → Option ia_R, (ia_getR (tot H x C) (wA x k) 8 15).bind f = f ((wA x k) + 12)) := by
  have this := pW_Rb (h := tot H x C) (a := (wA x k)) (X := (C.2 k))
  simp only [tq_W hk, uW_id] at this
  exact this
theorem tW_ldb {k : Nat} (hk : k < 7) : (∀ (i : Int32) (f : Int32 → Option ia_R), (ia_ald (tot H x C) ((wA x k) + 1) 0 i).bind f = (rd ((C.2 k).2 0) i).bind f) ∧ (∀ (i : Int32) (f : Int32 → Option ia_R), (ia_ald (tot H x C) ((wA x k) + 2) 0 i).bind f = (rd ((C.2 k).2 1) i).bind f) ∧ (∀ (i : Int32) (f : Int32 → Option ia_R), (ia_ald (tot H x C) ((wA x k) + 3) 0 i).bind f = (rd ((C.2 k).2 2) i).bind f) ∧ (∀ (i : Int32) (f : Int32 → Option ia_R), (ia_ald (tot H x C) ((wA x k) + 4) 0 i).bind f = (rd ((C.2 k).2 3) i).bind f) ∧ (∀ (i : Int32) (f : Int32 → Option ia_R), (ia_ald (tot H x C) ((wA x k) + 5) 0 i).bind f = (rd ((C.2 k).2 4) i).bind f) ∧ (∀ (i : Int32) (f : Int32 → Option ia_R), (ia_ald (tot H x C) ((wA x k) + 6) 0 i).bind f = (rd ((C.2 k).2 5) i).bind f) ∧ (∀ (i : Int32) (f : Int32 → Option ia_R), (ia_ald (tot H x C) ((wA x k) + 7) 0 i).bind f = (rd ((C.2 k).2 6) i).bind f) ∧ (∀ (i : Int32) (f : Int32 → Option ia_R), (ia_ald (tot H x C) ((wA x k) + 8) 0 i).bind f = (rd ((C.2 k).2 7) i).bind f) ∧ (∀ (i : Int32) (f : Int32 → Option ia_R), (ia_ald (tot H x C) ((wA x k) + 9) 0 i).bind f = (rd ((C.2 k).2 8) i).bind f) ∧ (∀ (i : Int32) (f : Int32 → Option ia_R), (ia_ald (tot H x C) ((wA x k) + 10) 0 i).bind f = (rd ((C.2 k).2 9) i).bind f) ∧ (∀ (i : Int32) (f : Int32 → Option ia_R), (ia_ald (tot H x C) ((wA x k) + 11) 0 i).bind f = (rd ((C.2 k).2 10) i).bind f) ∧ (∀ (i : Int32) (f : Int32 → Option ia_R), (ia_ald (tot H x C) ((wA x k) + 12) 0 i).bind f = (rd ((C.2 k).2 11) i).bind f) := by
  have this := pW_ldb (h := tot H x C) (a := (wA x k)) (X := (C.2 k))
  simp only [tq_W hk, uW_id] at this
  exact this
theorem tW_stb {k : Nat} (hk : k < 7) : (∀ (i : Int32) (y : Int32) (f : ia_H → Option ia_R), (ia_ast (tot H x C) ((wA x k) + 1) 0 i y).bind f = (wr ((C.2 k).2 0) i y).bind fun l => f (tot H x (uW C k (sA (C.2 k) 0 l)))) ∧ (∀ (i : Int32) (y : Int32) (f : ia_H → Option ia_R), (ia_ast (tot H x C) ((wA x k) + 2) 0 i y).bind f = (wr ((C.2 k).2 1) i y).bind fun l => f (tot H x (uW C k (sA (C.2 k) 1 l)))) ∧ (∀ (i : Int32) (y : Int32) (f : ia_H → Option ia_R), (ia_ast (tot H x C) ((wA x k) + 3) 0 i y).bind f = (wr ((C.2 k).2 2) i y).bind fun l => f (tot H x (uW C k (sA (C.2 k) 2 l)))) ∧ (∀ (i : Int32) (y : Int32) (f : ia_H → Option ia_R), (ia_ast (tot H x C) ((wA x k) + 4) 0 i y).bind f = (wr ((C.2 k).2 3) i y).bind fun l => f (tot H x (uW C k (sA (C.2 k) 3 l)))) ∧ (∀ (i : Int32) (y : Int32) (f : ia_H → Option ia_R), (ia_ast (tot H x C) ((wA x k) + 5) 0 i y).bind f = (wr ((C.2 k).2 4) i y).bind fun l => f (tot H x (uW C k (sA (C.2 k) 4 l)))) ∧ (∀ (i : Int32) (y : Int32) (f : ia_H → Option ia_R), (ia_ast (tot H x C) ((wA x k) + 6) 0 i y).bind f = (wr ((C.2 k).2 5) i y).bind fun l => f (tot H x (uW C k (sA (C.2 k) 5 l)))) ∧ (∀ (i : Int32) (y : Int32) (f : ia_H → Option ia_R), (ia_ast (tot H x C) ((wA x k) + 7) 0 i y).bind f = (wr ((C.2 k).2 6) i y).bind fun l => f (tot H x (uW C k (sA (C.2 k) 6 l)))) ∧ (∀ (i : Int32) (y : Int32) (f : ia_H → Option ia_R), (ia_ast (tot H x C) ((wA x k) + 8) 0 i y).bind f = (wr ((C.2 k).2 7) i y).bind fun l => f (tot H x (uW C k (sA (C.2 k) 7 l)))) ∧ (∀ (i : Int32) (y : Int32) (f : ia_H → Option ia_R), (ia_ast (tot H x C) ((wA x k) + 9) 0 i y).bind f = (wr ((C.2 k).2 8) i y).bind fun l => f (tot H x (uW C k (sA (C.2 k) 8 l)))) ∧ (∀ (i : Int32) (y : Int32) (f : ia_H → Option ia_R), (ia_ast (tot H x C) ((wA x k) + 10) 0 i y).bind f = (wr ((C.2 k).2 9) i y).bind fun l => f (tot H x (uW C k (sA (C.2 k) 9 l)))) ∧ (∀ (i : Int32) (y : Int32) (f : ia_H → Option ia_R), (ia_ast (tot H x C) ((wA x k) + 11) 0 i y).bind f = (wr ((C.2 k).2 10) i y).bind fun l => f (tot H x (uW C k (sA (C.2 k) 10 l)))) ∧ (∀ (i : Int32) (y : Int32) (f : ia_H → Option ia_R), (ia_ast (tot H x C) ((wA x k) + 12) 0 i y).bind f = (wr ((C.2 k).2 11) i y).bind fun l => f (tot H x (uW C k (sA (C.2 k) 11 l)))) := by
  have this := pW_stb (h := tot H x C) (a := (wA x k)) (X := (C.2 k))
  simp only [tq_W hk, uW_id] at this
  exact this
theorem tW_pfb {k : Nat} (hk : k < 7) : (∀ (v : Int32) (f : ia_H → Option ia_R), (ia_putf (tot H x C) (wA x k) 8 0 (.int v)).bind f = f (tot H x (uW C k (sI (C.2 k) 0 v)))) ∧ (∀ (v : Int32) (f : ia_H → Option ia_R), (ia_putf (tot H x C) (wA x k) 8 1 (.int v)).bind f = f (tot H x (uW C k (sI (C.2 k) 1 v)))) ∧ (∀ (v : Int32) (f : ia_H → Option ia_R), (ia_putf (tot H x C) (wA x k) 8 4 (.int v)).bind f = f (tot H x (uW C k (sI (C.2 k) 2 v)))) ∧ (∀ (v : Int32) (f : ia_H → Option ia_R), (ia_putf (tot H x C) (wA x k) 8 9 (.int v)).bind f = f (tot H x (uW C k (sI (C.2 k) 3 v)))) := by
  have this := pW_pfb (h := tot H x C) (a := (wA x k)) (X := (C.2 k))
  simp only [tq_W hk, uW_id] at this
  exact this
theorem tN_Rb {σ : Bool} (q : fx x C σ) : (∀ f : Nat → Option ia_R, (ia_getR (tot H x C) x 9 0).bind f = f (x + 1)) ∧ (∀ f : Nat → Option ia_R, (ia_getR (tot H x C) x 9 2).bind f = f (sd x σ)) ∧ (∀ f : Nat → Option ia_R, (ia_getR (tot H x C) x 9 3).bind f = f (wA x 1)) ∧ (∀ f : Nat → Option ia_R, (ia_getR (tot H x C) x 9 4).bind f = f (wA x 2)) ∧ (∀ f : Nat → Option ia_R, (ia_getR (tot H x C) x 9 6).bind f = f (x + 53)) ∧ (∀ f : Nat → Option ia_R, (ia_getR (tot H x C) x 9 7).bind f = f (ed x false)) ∧ (∀ f : Nat → Option ia_R, (ia_getR (tot H x C) x 9 8).bind f = f (x + 109)) ∧ (∀ f : Nat → Option ia_R, (ia_getR (tot H x C) x 9 9).bind f = f (x + 149)) ∧ (∀ f : Nat → Option ia_R, (ia_getR (tot H x C) x 9 10).bind f = f (x + 154)) := by
  have this := pN_Rb (h := tot H x C) (a := x) (X := (C.1 0))
  simp only [tq_N, uG_id, q.1.1, q.1.2.1, q.1.2.2.1, q.1.2.2.2.1, q.1.2.2.2.2.1, q.1.2.2.2.2.2.1, q.1.2.2.2.2.2.2.1, q.1.2.2.2.2.2.2.2] at this
  exact this
theorem tS_Rb {σ τ : Bool} (q : fx x C σ) : (∀ f : Nat → Option ia_R, (ia_getR (tot H x C) (sd x τ) 6 1).bind f = f ((sd x τ) + 1)) ∧ (∀ f : Nat → Option ia_R, (ia_getR (tot H x C) (sd x τ) 6 2).bind f = f ((sd x τ) + 2)) ∧ (∀ f : Nat → Option ia_R, (ia_getR (tot H x C) (sd x τ) 6 4).bind f = f ((sd x τ) + 3)) ∧ (∀ f : Nat → Option ia_R, (ia_getR (tot H x C) (sd x τ) 6 5).bind f = f ((sd x τ) + 4)) ∧ (∀ f : Nat → Option ia_R, (ia_getR (tot H x C) (sd x τ) 6 9).bind f = f (wA x (kF τ))) ∧ (∀ f : Nat → Option ia_R, (ia_getR (tot H x C) (sd x τ) 6 10).bind f = f (sd x τ + 18)) := by
  have this := pS_Rb (h := tot H x C) (a := (sd x τ)) (X := (C.1 (kS τ)))
  simp only [tq_S, uG_id, (q.2.2.2 τ).1, (q.2.2.2 τ).2] at this
  exact this
theorem tQ_Rb {σ : Bool} (q : fx x C σ) : (∀ f : Nat → Option ia_R, (ia_getR (tot H x C) (x + 53) 4 3).bind f = f (sd x (!σ))) ∧ (∀ f : Nat → Option ia_R, (ia_getR (tot H x C) (x + 53) 4 4).bind f = f (x + 79)) ∧ (∀ f : Nat → Option ia_R, (ia_getR (tot H x C) (x + 53) 4 5).bind f = f (x + 82)) := by
  have this := pQ_Rb (h := tot H x C) (a := (x + 53)) (X := (C.1 3))
  simp only [tq_Q, uG_id, q.2.1.1, q.2.1.2.1, q.2.1.2.2] at this
  exact this
theorem tF_Rb {σ : Bool} (q : fx x C σ) : (∀ f : Nat → Option ia_R, (ia_getR (tot H x C) (x + 109) 2 0).bind f = f (wA x 5)) ∧ (∀ f : Nat → Option ia_R, (ia_getR (tot H x C) (x + 109) 2 1).bind f = f (ed x true)) := by
  have this := pF_Rb (h := tot H x C) (a := (x + 109)) (X := (C.1 11))
  simp only [tq_F, uG_id, q.2.2.1.1, q.2.2.1.2] at this
  exact this
end TB
