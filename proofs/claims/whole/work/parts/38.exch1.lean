/-! Exchange: what a law says. -/
def wfM (X : aW) (t r p : Nat) : Prop := (∀ i, i < t → ∃ m, m < p ∧ fA X 2 i = nI m) ∧ (∀ i, i < r → ∃ m, m < p ∧ fA X 6 i = nI m) ∧ ∀ i, i < r → ∃ m, m < p ∧ fA X 7 i = nI m
def wfX (X : aW) (t r p : Nat) : Prop := wfW X t r ∧ p ≤ 6 ∧ wfM X t r p
def wfQ (L : aG) : Prop := wfL L ∧ ∀ k, k < 3 → ∃ a b, fG L 2 k = nI a ∧ fG L 3 k = nI b ∧ b ≤ 64 ∧ (a < b → wfR (fG L 0) (b - a) a 0) ∧ a ≤ 64
def wfC (e w s : Nat) (E S L : aG) (p n : Nat) : Prop := dj e w s ∧ E.2.2.2.2 0 = s ∧ S.2.2.2.2 1 = s + 18 ∧ wfS S p n ∧ wfQ L
def engX (X : aW) (t r : Nat) : Int32 := tkF (fA X 10) (fA X 6) (fA X 7) r ||| tnF (fA X 5) (fA X 2) t
/-- what the names mean -/
def msX (E S : aG) (X : aW) (t r n m : Nat) (turn : Int32) : List Int64 := [turn.toInt64, (fG S 1 m).toInt64, (fA X 0 m).toInt64, (bcI (engX X t r)).toInt64, (fA X 1 m).toInt64, if E.1 2 = 0 then (prF (fG S 2) (fG S 3) (X.1 0) n).2.toInt64 else 0, (X.1 0).toInt64]
/-- a law's value with these meanings -/
def evL (L : aG) (ms : List Int64) (k : Nat) : Int64 := (evF (fG L 0) (fG L 1) ms ((fG L 3 k).toNatClampNeg - (fG L 2 k).toNatClampNeg) (fG L 2 k).toNatClampNeg []).getD (-9223372036854775808)
def valX (E S L : aG) (X : aW) (t r n k m : Nat) (turn : Int32) : Int64 := if tldI L k = 0 then -9223372036854775808 else evL L (msX E S X t r n m turn) k
theorem rdA {X : aW} {k i : Nat} (hi : i < (X.2 k).length) (h31 : (X.2 k).length < 2 ^ 31) : rd (X.2 k) (nI i) = some (fA X k i) := rdN hi h31
section KC
variable (xs : List Int32) (d : Nat)
theorem k_work (h : ia_H) (a : Nat) (L : aG) (hw : wfQ L) {k : Nat} (hk : k < 3) {kI : Int32} (hkI : kI = nI k) (ht : ¬ tldI L k = 0) :
    ∃ vs, vs.length = 64 ∧ ia_cal xs (d + 2) im_Laws_work [.ref a, .int kI] (pL h a L) = some (some (.long (evL L (L.2.2.2.1 0) k)), pL h a (gB L 1 vs)) := by
  subst hkI
  obtain ⟨hl, hq⟩ := hw
  obtain ⟨u, b, hu, hb, hb64, hwf, hu64⟩ := hq k hk
  have hub : u < b := by
    unfold tldI at ht
    rw [hu, hb] at ht
    by_cases c : u < b
    · exact c
    · exfalso
      rw [if_neg (nI_nlt (by omega) (by omega))] at ht
      exact ht rfl
  have t1 : tldI L k = 1 := by
    unfold tldI
    rw [hu, hb, if_pos (nI_lt hub (by omega))]
  rw [iu_Laws_work, iq_Laws_work_0]
  have r2 : rd (L.2.1 2) (nI k) = some (nI u) := by rw [rdG (by rw [hl.2.2.1]; omega) (by rw [hl.2.2.1]; omega), hu]
  simp only [pL_cls, if_true, k_isTold xs d h a L hl hk, ia_cI, t1, pL_R, pL_ld, Option.bind_some, r2]
  rw [if_neg (by decide)]
  have := work_lp xs d h a L hl hk hb hb64 (b - u) u [] (L.2.2.2.1 1) 999999 (by omega) (by simp only [List.length_nil]; omega) hl.2.2.2.2.2 trivial (hwf hub) (by omega)
  rw [gB_id] at this
  unfold evL
  rw [hu, hb, nI_clamp (by omega), nI_clamp (by omega)]
  exact this
variable {h : ia_H} {e w s : Nat} {E S L : aG} {dr : Int64} {X : aW} {sc : List Int64 × List Int64} {t r p n : Nat}
theorem cy_isTold (q : wfC e w s E S L p n) {k : Nat} (hk : k < 3) {kI : Int32} (hkI : kI = nI k) : ia_cal xs (d + 1) im_Laws_isTold [.ref (s + 18), .int kI] (cy h e w s E S L dr X sc) = some (some (.int (tldI L k)), cy h e w s E S L dr X sc) := by
  subst hkI
  have hl := q.2.2.2.2.1
  have key : ∀ g, ia_cal xs (d + 1) im_Laws_isTold [.ref (s + 18), .int (nI k)] (pL g (s + 18) (gL L sc)) = some (some (.int (tldI L k)), pL g (s + 18) (gL L sc)) := fun g => by
    rw [iu_Laws_isTold, iq_Laws_isTold_0]
    obtain ⟨-, -, l2, l3, -, -⟩ := hl
    simp only [pL_R, pL_ld, gL_2, Option.bind_some, rdG (show k < (L.2.1 2).length by omega) (by omega), rdG (show k < (L.2.1 3).length by omega) (by omega), tldI]
    rw [if_neg (nI_pos (by omega)), if_pos (show nI k < (3 : Int32) from nI_lt (b := 3) hk (by omega))]
    by_cases h1 : fG L 2 k < fG L 3 k <;> simp [h1]
  have := key (cy h e w s E S L dr X sc)
  rw [cyL q.1] at this
  exact this
theorem cy_work (q : wfC e w s E S L p n) (hsc : scw sc) {k : Nat} (hk : k < 3) {kI : Int32} (hkI : kI = nI k) (ht : ¬ tldI L k = 0) : ∃ vs, vs.length = 64 ∧ ia_cal xs (d + 2) im_Laws_work [.ref (s + 18), .int kI] (cy h e w s E S L dr X sc) = some (some (.long (evL L sc.1 k)), cy h e w s E S L dr X (sc.1, vs)) := by
  have hl := q.2.2.2.2
  have hl2 : wfQ (gL L sc) := ⟨⟨hl.1.1, hl.1.2.1, hl.1.2.2.1, hl.1.2.2.2.1, by rw [gL_m]; exact hsc.1, by rw [gL_v]; exact hsc.2⟩, hl.2⟩
  obtain ⟨vs, h1, h2⟩ := k_work xs d (cy h e w s E S L dr X sc) (s + 18) (gL L sc) hl2 hk hkI ht
  rw [gL_m, gL_gv, cyL q.1, cyL q.1] at h2
  exact ⟨vs, h1, h2⟩
theorem cy_talking (q : dj e w s) (hX : wfW X t r) : ia_cal xs (d + 1) im_World_talking [.ref w] (cy h e w s E S L dr X sc) = some (some (.int (tkF (fA X 10) (fA X 6) (fA X 7) r)), cy h e w s E S L dr X sc) := by
  have := k_talking xs d (cy h e w s E S L dr X sc) w X hX
  rw [cyW q] at this
  exact this
theorem cy_toning (q : dj e w s) (hX : wfW X t r) : ia_cal xs (d + 1) im_World_toning [.ref w] (cy h e w s E S L dr X sc) = some (some (.int (tnF (fA X 5) (fA X 2) t)), cy h e w s E S L dr X sc) := by
  have := k_toning xs d (cy h e w s E S L dr X sc) w X hX
  rw [cyW q] at this
  exact this
theorem cy_engaged (q : dj e w s) (hX : wfW X t r) : ia_cal xs (d + 2) im_World_engaged [.ref w] (cy h e w s E S L dr X sc) = some (some (.int (engX X t r)), cy h e w s E S L dr X sc) := by
  have := k_engaged xs d (cy h e w s E S L dr X sc) w X hX
  rw [cyW q] at this
  exact this
theorem cy_rings (q : dj e w s) (hX : wfW X t r) (st : Int32) : ia_cal xs (d + 1) im_World_ringsThatAre [.ref w, .int st] (cy h e w s E S L dr X sc) = some (some (.int (nI (cntF (fA X 10) st r))), cy h e w s E S L dr X sc) := by
  have := k_ringsF xs d (cy h e w s E S L dr X sc) w X hX st
  rw [cyW q] at this
  exact this
theorem cy_endCalls (q : dj e w s) (hX : wfW X t r) : ia_cal xs (d + 1) im_World_endCalls [.ref w] (cy h e w s E S L dr X sc) = some (none, cy h e w s E S L dr (endCX X r) sc) := by
  have := k_endCalls xs d (cy h e w s E S L dr X sc) w X hX
  rw [cyW q, cyW q] at this
  exact this
theorem cy_endTones (q : dj e w s) (hX : wfW X t r) : ia_cal xs (d + 1) im_World_endTones [.ref w] (cy h e w s E S L dr X sc) = some (none, cy h e w s E S L dr (endTX X t) sc) := by
  have := k_endTones xs d (cy h e w s E S L dr X sc) w X hX
  rw [cyW q, cyW q] at this
  exact this
theorem cy_priceAt (q : dj e w s) (hS : wfS S p n) (v : Int32) : ia_cal xs (d + 1) im_Script_priceAt [.ref s, .int v] (cy h e w s E S L dr X sc) = some (some (.int (prF (fG S 2) (fG S 3) v n).2), cy h e w s E S L dr X sc) := by
  have := k_priceAt xs d (cy h e w s E S L dr X sc) s S hS v
  rw [cyS q] at this
  exact this
end KC
section W7
variable {a0 a1 a2 a3 a4 a5 a6 x : Int64}
theorem w7_0 : wr [a0, a1, a2, a3, a4, a5, a6] (0 : Int32) x = some [x, a1, a2, a3, a4, a5, a6] := Eq.trans rfl rfl
theorem w7_1 : wr [a0, a1, a2, a3, a4, a5, a6] (1 : Int32) x = some [a0, x, a2, a3, a4, a5, a6] := Eq.trans rfl rfl
theorem w7_2 : wr [a0, a1, a2, a3, a4, a5, a6] (2 : Int32) x = some [a0, a1, x, a3, a4, a5, a6] := Eq.trans rfl rfl
theorem w7_3 : wr [a0, a1, a2, a3, a4, a5, a6] (3 : Int32) x = some [a0, a1, a2, x, a4, a5, a6] := Eq.trans rfl rfl
theorem w7_4 : wr [a0, a1, a2, a3, a4, a5, a6] (4 : Int32) x = some [a0, a1, a2, a3, x, a5, a6] := Eq.trans rfl rfl
theorem w7_5 : wr [a0, a1, a2, a3, a4, a5, a6] (5 : Int32) x = some [a0, a1, a2, a3, a4, x, a6] := Eq.trans rfl rfl
theorem w7_6 : wr [a0, a1, a2, a3, a4, a5, a6] (6 : Int32) x = some [a0, a1, a2, a3, a4, a5, x] := Eq.trans rfl rfl
end W7
theorem len7 {l : List Int64} (h : l.length = 7) : ∃ a0 a1 a2 a3 a4 a5 a6, l = [a0, a1, a2, a3, a4, a5, a6] := by
  match l, h with
  | [a0, a1, a2, a3, a4, a5, a6], _ => exact ⟨a0, a1, a2, a3, a4, a5, a6, rfl⟩
section KV
variable (xs : List Int32) (d : Nat) {h : ia_H} {e w s : Nat} {E S L : aG} {dr : Int64} {X : aW} {sc : List Int64 × List Int64} {t r p n : Nat}
theorem cy_Es (q : wfC e w s E S L p n) : ∀ f : Nat → Option ia_R, (ia_getR (cy h e w s E S L dr X sc) e 1 0).bind f = f s := bs (by rw [cy_ER, q.2.1])
theorem cy_Sl (q : wfC e w s E S L p n) : ∀ f : Nat → Option ia_R, (ia_getR (cy h e w s E S L dr X sc) s 6 10).bind f = f (s + 18) := bs (by rw [(cy_SR q.1).2.2.2.2.2, q.2.2.1])
theorem k_valueOf (q : wfC e w s E S L p n) (hX : wfW X t r) (hsc : scw sc) {k m : Nat} (hk : k < 3) (hm : m < 6) {kI mI : Int32} (hkI : kI = nI k) (hmI : mI = nI m) (turn : Int32) :
    ∃ sc', scw sc' ∧ ia_cal xs (d + 3) im_Exchange_valueOf [.ref e, .ref w, .int kI, .int mI, .int turn] (cy h e w s E S L dr X sc) = some (some (.long (valX E S L X t r n k m turn)), cy h e w s E S L dr X sc') := by
  subst hmI
  have dq := q.1
  have hS := q.2.2.2.1
  have rv : rd (S.2.1 1) (nI m) = some (fG S 1 m) := rdG (by rw [hS.2.2.2.2.2.1]; exact hm) (by rw [hS.2.2.2.2.2.1]; decide)
  have r0 : rd (X.2 0) (nI m) = some (fA X 0 m) := rdA (by rw [hX.ln.1]; exact hm) (by rw [hX.ln.1]; decide)
  have r1 : rd (X.2 1) (nI m) = some (fA X 1 m) := rdA (by rw [hX.ln.2.1]; exact hm) (by rw [hX.ln.2.1]; decide)
  obtain ⟨ms, vs⟩ := sc
  obtain ⟨a0, a1, a2, a3, a4, a5, a6, rfl⟩ := len7 hsc.1
  rw [iu_Exchange_valueOf, iq_Exchange_valueOf_0]
  unfold valX
  by_cases ht : tldI L k = 0
  · refine ⟨([a0, a1, a2, a3, a4, a5, a6], vs), hsc, ?_⟩
    simp only [↓cy_Es q, ↓cy_Sl q, ↓cy_L_clsb dq, ↓cI_of (cy_isTold xs (d + 1) q hk hkI), ↓if_p ht]
    rw [if_pos ht]
  · have hsc2 : scw (msX E S X t r n m turn, vs) := ⟨rfl, hsc.2⟩
    obtain ⟨vs2, h1, h2⟩ := cy_work xs d (h := h) (dr := dr) (X := X) q hsc2 hk hkI ht
    refine ⟨(msX E S X t r n m turn, vs2), ⟨rfl, h1⟩, ?_⟩
    rw [if_neg ht]
    simp only [↓cy_Es q, ↓cy_Sl q, ↓cy_L_clsb dq, ↓cI_of (cy_isTold xs (d + 1) q hk hkI), ↓if_n ht, ↓cy_L_Rb dq, ↓cy_L_lsb dq, ↓bs w7_0, ↓bs w7_1, ↓bs w7_2, ↓bs w7_3, ↓bs w7_4, ↓cy_S_Rb dq, ↓cy_S_ldb dq, ↓bs rv, ↓cy_W_Rb dq, ↓cy_W_ldb dq, ↓bs r0, ↓bs r1, ↓cy_W_clsb dq, ↓cI_of (cy_engaged xs d dq hX), ↓cI_of (k_bitCount _ _ _ _), ↓cy_E_Ib, ↓cy_W_Ib dq, ↓cy_S_clsb dq, ↓cI_of (cy_priceAt xs (d + 1) dq hS _)]
    by_cases hf : E.1 2 = 0
    · simp only [msX, if_pos hf] at h2 ⊢
      rw [iq_Exchange_valueOf_63]
      simp only [↓cy_L_lsb dq, ↓bs w7_5, ↓bs w7_6, ↓cy_W_Ib dq, ↓cy_Es q, ↓cy_Sl q, ↓cy_L_clsb dq, ↓cL_of h2]
    · simp only [msX, if_neg hf] at h2 ⊢
      rw [iq_Exchange_valueOf_63]
      simp only [↓cy_L_lsb dq, ↓bs w7_5, ↓bs w7_6, ↓cy_W_Ib dq, ↓cy_Es q, ↓cy_Sl q, ↓cy_L_clsb dq, ↓cL_of h2]
end KV
