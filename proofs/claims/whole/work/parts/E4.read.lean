/-! text: the class's small steps while it reads. -/
def tkA (Z : aG) (by_ : Nat → Nat) (T i : Nat) : aG := tkZ Z (tkK by_ T i) (tkV by_ T i) (tkP by_ T i) (tkJ by_ T i)
theorem tkZ_Z {Z : aG} {K V p j K' V' p' j' : Nat} : tkZ (tkZ Z K V p j) K' V' p' j' = tkZ Z K' V' p' j' := by
  refine Prod.ext (funext fun k => ?_) rfl
  show (if k = 4 then nI j' else if k = 2 then nI V' else if k = 1 then nI p' else if k = 0 then nI K' else if k = 4 then nI j else if k = 2 then nI V else if k = 1 then nI p else if k = 0 then nI K else Z.1 k) = if k = 4 then nI j' else if k = 2 then nI V' else if k = 1 then nI p' else if k = 0 then nI K' else Z.1 k
  by_cases c4 : k = 4
  · rw [if_pos c4, if_pos c4]
  · by_cases c2 : k = 2
    · rw [if_neg c4, if_pos c2, if_neg c4, if_pos c2]
    · by_cases c1 : k = 1
      · rw [if_neg c4, if_neg c2, if_pos c1, if_neg c4, if_neg c2, if_pos c1]
      · by_cases c0 : k = 0
        · rw [if_neg c4, if_neg c2, if_neg c1, if_pos c0, if_neg c4, if_neg c2, if_neg c1, if_pos c0]
        · rw [if_neg c4, if_neg c2, if_neg c1, if_neg c0, if_neg c4, if_neg c2, if_neg c1, if_neg c0, if_neg c4, if_neg c2, if_neg c1, if_neg c0]
/-- what the class's reader needs -/
def cB (x : Nat) (C : aC) (σ : Bool) (M : aG) (by_ : Nat → Nat) (T : Nat) : Prop := fx x C σ ∧ txB (C.1 0) M by_ T ∧ (C.1 6).1 3 = nI T ∧ (C.1 6).2.2.2.2 0 = x + 1 ∧ (C.1 6).2.1 1 = wordL
section EX4
variable (xs : List Int32) (d : Nat) {H : ia_H} {x : Nat} {C : aC} {σ τ : Bool} {M : aG} {by_ : Nat → Nat} {T : Nat} {B E L : aG}
theorem cB.tk (h : cB x C σ M by_ T) : ∀ i, i < T → by_ i < 256 := fun i hi => (h.2.1.2.2.2 i hi).1
theorem c_next (h : cB x C σ M by_ T) {i : Nat} (hi : i ≤ T) : ia_cal xs (d + 7) im_Tokens_next [.ref (x + 79)] (tot H x (k4 C τ (tkA (C.1 6) by_ T i) B E L)) = some (none, tot H x (k4 C τ (tkA (C.1 6) by_ T (tkJ by_ T i)) B E L)) := by
  obtain ⟨h1, h2, h3, h4, h5⟩ := h
  have hon := tk_on (fun i hi => (h2.2.2.2 i hi).1) i hi
  have := t_next xs d (H := H) (x := x) (C := k4 C τ (tkA (C.1 6) by_ T i) B E L) (M := M) (by_ := by_) (T := T) (by rw [k4_0]; exact h2) (Z := tkA (C.1 6) by_ T i) h3 h4 h5 (tkJ by_ T i) hon.2.2.1 rfl
  rw [k4_u6, k4_u6, show tkZ (tkA (C.1 6) by_ T i) (tkK by_ T (tkJ by_ T i)) (tkV by_ T (tkJ by_ T i)) (tkP by_ T (tkJ by_ T i)) (tkJ by_ T (tkJ by_ T i)) = tkA (C.1 6) by_ T (tkJ by_ T i) from tkZ_Z] at this
  exact this
/-- what a fault sets -/
def fB (B : aG) (k p : Nat) : aG := gI (gI B 0 (nI k)) 1 (nI p)
theorem fB_2 {k p : Nat} : (fB B k p).2 = B.2 := rfl
theorem k_wrong (hq : fx x (k4 C τ (tkA (C.1 6) by_ T 0) B E L) σ) {i k : Nat} {v : Int32} (hv : v = nI k) : ia_cal xs (d + 1) im_Reader_wrong [.ref (x + 53), .int v] (tot H x (k4 C τ (tkA (C.1 6) by_ T i) B E L)) = some (some (.int 0), tot H x (k4 C τ (tkA (C.1 6) by_ T i) (fB B k (tkP by_ T i)) E L)) := by
  have hq' : fx x (k4 C τ (tkA (C.1 6) by_ T i) (gI B 0 (nI k)) E L) σ := ⟨by have := hq.1; rw [k4_0] at this ⊢; exact this, hq.2.1, by have := hq.2.2.1; rw [k4_11] at this ⊢; exact this, fun ρ => by have := hq.2.2.2 ρ; rw [k4_S] at this ⊢; exact this⟩
  have q1 : (tkA (C.1 6) by_ T i).1 1 = nI (tkP by_ T i) := rfl
  rw [iu_Reader_wrong, iq_Reader_wrong_0, hv]
  simp only [↓tQ_pfb, k4_3, k4_u3, ↓tQ_Rb hq', ↓tT_Ib, k4_6, q1, ↓ok0]
  rfl
theorem k_fx (hc : cB x C σ M by_ T) {A : aG} (hB : B.2 = (C.1 3).2) : fx x (k4 C τ A B E L) σ := k4_fx hc.1 hB
theorem k_rankOf {K : Nat} (hK : K < 100) (g : ia_H) : ia_cal xs (d + 1) im_Reader_rankOf [.int (nI K)] g = some (some (.int (nI (rkK K))), g) := by
  have e : ∀ k, k < 100 → (nI K = nI k ↔ K = k) := fun k hk => nI_eq (by omega) (by omega)
  rw [iu_Reader_rankOf, iq_Reader_rankOf_0]
  unfold rkK
  have st : ∀ (k : Nat) (v w : Int32) (A : Option ia_R), k < 100 → (K = k → w = v) → (K ≠ k → A = some (some (.int w), g)) → (if nI K = nI k then some (some (Value.int v), g) else A) = some (some (.int w), g) := fun k v w A hk h1 h2 => by
    by_cases c : K = k
    · rw [if_pos ((e k hk).mpr c), h1 c]
    · rw [if_neg (fun z => c ((e k hk).mp z))]
      exact h2 c
  generalize hw : nI (if K = 22 then 1 else if K = 23 then 2 else if K = 24 then 3 else if K = 28 ∨ K = 29 then 5 else if K = 30 ∨ K = 31 then 6 else if 32 ≤ K ∧ K ≤ 37 then 4 else 0) = w
  have hk : ∀ k, K = k → w = nI (rkK k) := fun k z => by rw [← hw, ← z]; rfl
  refine st 22 1 w _ (by decide) (fun z => hk 22 z) fun n22 => ?_
  refine st 23 2 w _ (by decide) (fun z => hk 23 z) fun n23 => ?_
  refine st 24 3 w _ (by decide) (fun z => hk 24 z) fun n24 => ?_
  refine st 25 0 w _ (by decide) (fun z => hk 25 z) fun n25 => ?_
  refine st 26 0 w _ (by decide) (fun z => hk 26 z) fun n26 => ?_
  refine st 27 0 w _ (by decide) (fun z => hk 27 z) fun n27 => ?_
  refine st 28 5 w _ (by decide) (fun z => hk 28 z) fun n28 => ?_
  refine st 29 5 w _ (by decide) (fun z => hk 29 z) fun n29 => ?_
  refine st 30 6 w _ (by decide) (fun z => hk 30 z) fun n30 => ?_
  refine st 31 6 w _ (by decide) (fun z => hk 31 z) fun n31 => ?_
  refine st 32 4 w _ (by decide) (fun z => hk 32 z) fun n32 => ?_
  refine st 33 4 w _ (by decide) (fun z => hk 33 z) fun n33 => ?_
  refine st 34 4 w _ (by decide) (fun z => hk 34 z) fun n34 => ?_
  refine st 35 4 w _ (by decide) (fun z => hk 35 z) fun n35 => ?_
  refine st 36 4 w _ (by decide) (fun z => hk 36 z) fun n36 => ?_
  refine st 37 4 w _ (by decide) (fun z => hk 37 z) fun n37 => ?_
  have : w = 0 := by rw [← hw, if_neg n22, if_neg n23, if_neg n24, if_neg (by omega), if_neg (by omega), if_neg (by omega)]; rfl
  rw [this]
/-- the signs that wait, the last first -/
def agS (R : List Int32) : List Nat → Prop
  | [] => True
  | o :: st => R.getD st.length 0 = nI o ∧ o < 38 ∧ agS R st
theorem agS_set {R : List Int32} {n : Nat} {v : Int32} (hn : n < R.length) : ∀ st, st.length ≤ n → agS R st → agS (R.set n v) st
  | [], _, _ => trivial
  | o :: st, hl, h => by
    have hl' : st.length + 1 ≤ n := hl
    refine ⟨?_, h.2.1, agS_set hn st (by omega) h.2.2⟩
    rw [ia_set_getD hn, if_neg (by omega)]
    exact h.1
theorem top_lt {R : List Int32} {st : List Nat} (h : agS R st) : topR st = rkK (st.headD 26) ∧ st.headD 26 < 38 := by
  refine ⟨rfl, ?_⟩
  cases st with
  | nil => decide
  | cons o st => exact h.2.1
theorem k_rankLast (hq : fx x (k4 C τ (tkA (C.1 6) by_ T 0) B E L) σ) {i : Nat} {st : List Nat} (h3 : B.1 3 = nI st.length) (h7 : (E.2.1 0).length = 72) (hs : st.length ≤ 72) (ha : agS (E.2.1 0) st) : ia_cal xs (d + 2) im_Reader_rankOfLast [.ref (x + 53)] (tot H x (k4 C τ (tkA (C.1 6) by_ T i) B E L)) = some (some (.int (nI (topR st))), tot H x (k4 C τ (tkA (C.1 6) by_ T i) B E L)) := by
  have hq' : fx x (k4 C τ (tkA (C.1 6) by_ T i) B E L) σ := ⟨by have := hq.1; rw [k4_0] at this ⊢; exact this, hq.2.1, by have := hq.2.2.1; rw [k4_11] at this ⊢; exact this, fun ρ => by have := hq.2.2.2 ρ; rw [k4_S] at this ⊢; exact this⟩
  rw [iu_Reader_rankOfLast, iq_Reader_rankOfLast_0]
  simp only [↓tQ_Ib, k4_3, h3, ↓tQ_Rb hq', ↓tV_len, k4_7, h7, ↓tV_ldb]
  cases st with
  | nil =>
    rw [if_neg (show ¬ (0 : Int32) < nI ([] : List Nat).length from by decide)]
    rfl
  | cons o st =>
    have hs' : st.length + 1 ≤ 72 := hs
    have r0 : rd (E.2.1 0) (nI st.length) = some (nI o) := by
      rw [← ha.1]
      exact rdN (by omega) (by omega)
    have em : nI (o :: st).length - 1 = nI st.length := by
      have : nI (st.length + 1) - nI 1 = nI (st.length + 1 - 1) := pk_sub (by omega)
      exact this
    rw [if_pos (show (0 : Int32) < nI (o :: st).length from nI_lt (a := 0) (by show 0 < st.length + 1; omega) (by show st.length + 1 < 2 ^ 31; omega)), if_neg (nI_nlt (by show st.length + 1 ≤ 72; omega) (by decide)), em]
    simp only [↓bs r0]
    rw [cI_of (k_rankOf xs d (by have := ha.2.1; omega) _)]
    rfl
theorem k_await (hq : fx x (k4 C τ (tkA (C.1 6) by_ T 0) B E L) σ) {i n k : Nat} (h3 : B.1 3 = nI n) (h7 : (E.2.1 0).length = 72) (hn : n < 72) {v : Int32} (hv : v = nI k) : ia_cal xs (d + 1) im_Reader_await [.ref (x + 53), .int v] (tot H x (k4 C τ (tkA (C.1 6) by_ T i) B E L)) = some (some (.int 1), tot H x (k4 C τ (tkA (C.1 6) by_ T i) (gI B 3 (nI (n + 1))) (gA E 0 ((E.2.1 0).set n (nI k))) L)) := by
  have hq' : ∀ A E, fx x (k4 C τ A B E L) σ := fun A E => ⟨by have := hq.1; rw [k4_0] at this ⊢; exact this, hq.2.1, by have := hq.2.2.1; rw [k4_11] at this ⊢; exact this, fun ρ => by have := hq.2.2.2 ρ; rw [k4_S] at this ⊢; exact this⟩
  have w0 : wr (E.2.1 0) (nI n) (nI k) = some ((E.2.1 0).set n (nI k)) := wr_nI (by omega) (by omega)
  rw [iu_Reader_await, iq_Reader_await_0, hv]
  simp only [↓tQ_Ib, k4_3, h3, ↓tQ_Rb (hq' (tkA (C.1 6) by_ T i) E), ↓tV_len, k4_7, h7, ↓if_p (nI_lt hn (show (72 : Nat) < 2 ^ 31 by decide)), ↓tV_stb, ↓bs w0, k4_u7, ↓tQ_pfb, k4_u3, nI_1, ↓ok1]
theorem k_count (hq : fx x (k4 C (!σ) (tkA (C.1 6) by_ T 0) B E L) σ) {i kn : Nat} (hk : kn ≤ 64) (h0 : L.1 0 = nI kn) : ia_cal xs (d + 2) im_Reader_countKnot [.ref (x + 53)] (tot H x (k4 C (!σ) (tkA (C.1 6) by_ T i) B E L)) = if kn < 64 then some (some (.int 1), tot H x (k4 C (!σ) (tkA (C.1 6) by_ T i) B E (gI L 0 (nI (kn + 1))))) else some (some (.int 0), tot H x (k4 C (!σ) (tkA (C.1 6) by_ T i) (fB B 2 (tkP by_ T i)) E L)) := by
  have hq' : fx x (k4 C (!σ) (tkA (C.1 6) by_ T i) B E L) σ := ⟨by have := hq.1; rw [k4_0] at this ⊢; exact this, hq.2.1, by have := hq.2.2.1; rw [k4_11] at this ⊢; exact this, fun ρ => by have := hq.2.2.2 ρ; rw [k4_S] at this ⊢; exact this⟩
  rw [iu_Reader_countKnot, iq_Reader_countKnot_0]
  simp only [↓tQ_Rb hq', ↓tS_Rb hq', ↓tL_Ib, k4_L, h0, ↓tL_pfb, k4_uL, nI_1, ↓ok1, ↓tQ_clsb]
  by_cases c : kn < 64
  · rw [if_pos (show nI kn < (64 : Int32) from nI_lt (b := 64) c (by decide)), if_pos c]
  · rw [if_neg (show ¬ nI kn < (64 : Int32) from nI_nlt (b := 64) (by omega) (by omega)), if_neg c, cI_of (k_wrong xs d (i := i) (k := 2) (v := 2) hq rfl), ok0]
def wrL (L : aG) (w k v : Nat) : aG := gI (gA (gA L 0 ((L.2.1 0).set w (nI k))) 1 ((L.2.1 1).set w (nI v))) 1 (nI (w + 1))
theorem k_write {A : aG} {w k v : Nat} (h1 : L.1 1 = nI w) (hw : w < 64) (l0 : (L.2.1 0).length = 64) (l1 : (L.2.1 1).length = 64) {kI vI : Int32} (ek : kI = nI k) (ev : vI = nI v) : ia_cal xs (d + 1) im_Laws_write [.ref (sd x τ + 18), .int kI, .int vI] (tot H x (k4 C τ A B E L)) = some (none, tot H x (k4 C τ A B E (wrL L w k v))) := by
  have w0 : wr (L.2.1 0) (nI w) (nI k) = some ((L.2.1 0).set w (nI k)) := wr_nI (by omega) (by omega)
  have w1 : wr ((gA L 0 ((L.2.1 0).set w (nI k))).2.1 1) (nI w) (nI v) = some ((L.2.1 1).set w (nI v)) := wr_nI (by omega) (by show w < (L.2.1 1).length; omega)
  have q1 : (gA L 0 ((L.2.1 0).set w (nI k))).1 1 = nI w := h1
  have q2 : (gA (gA L 0 ((L.2.1 0).set w (nI k))) 1 ((L.2.1 1).set w (nI v))).1 1 = nI w := h1
  rw [iu_Laws_write, iq_Laws_write_0, ek, ev]
  simp only [↓tL_Ib, k4_L, h1, ↓if_p (show nI w < (64 : Int32) from nI_lt (b := 64) hw (by decide)), ↓tL_Rb, ↓tL_stb, ↓bs w0, k4_uL, q1, ↓bs w1, q2, ↓tL_pfb, nI_1]
  rfl
end EX4
