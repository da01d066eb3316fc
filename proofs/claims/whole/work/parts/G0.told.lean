/-! text: what was told, bit by bit; what was read so far, in class and reference. -/
def tB (v : Int32) (k : Nat) : Prop := (v >>> (nI k &&& 31)) &&& 1 = 1
theorem tB_iff (v : Int32) : ∀ k, k < 19 → (tB v k ↔ v.toBitVec.getLsbD k = true) := by
  intro k hk
  unfold tB
  have hs : ∀ k, k < 19 → ((nI k &&& 31).toBitVec.smod 32).toNat = k := by decide +kernel
  have hsk := hs k hk
  have g0 : ∀ i, i < 32 → (v.toBitVec.sshiftRight' ((nI k &&& 31).toBitVec.smod 32) &&& (1 : Int32).toBitVec).getLsbD i = ((if k + i < 32 then v.toBitVec.getLsbD (k + i) else v.toBitVec.msb) && decide (i = 0)) := by
    intro i hi
    rw [BitVec.getLsbD_and, BitVec.sshiftRight_eq', BitVec.getLsbD_sshiftRight, hsk]
    have o : (1 : Int32).toBitVec.getLsbD i = decide (i = 0) := by
      show (1#32).getLsbD i = _
      rw [BitVec.getLsbD_one]
      simp
    rw [o]
    have : decide (32 ≤ i) = false := by simp; omega
    rw [this]
    simp
  rw [← Int32.toBitVec_inj, Int32.toBitVec_and, Int32.toBitVec_shiftRight]
  have o : ∀ i, (1 : Int32).toBitVec.getLsbD i = decide (i = 0) := fun i => by
    show (1#32).getLsbD i = _
    rw [BitVec.getLsbD_one]
    simp
  constructor
  · intro h
    have := g0 0 (by decide)
    rw [h, o, if_pos (by omega)] at this
    simpa using this.symm
  · intro h
    apply BitVec.eq_of_getLsbD_eq
    intro i hi
    rw [g0 i hi, o]
    by_cases c : i = 0
    · subst c
      rw [if_pos (by omega)]
      simp [h]
    · simp [c]
theorem tB_or (v : Int32) (k w : Nat) (hk : k < 19) (hw : w < 19) : tB (v ||| ((1 : Int32) <<< (nI w &&& 31))) k ↔ tB v k ∨ k = w := by
  rw [tB_iff _ k hk, tB_iff v k hk, Int32.toBitVec_or, BitVec.getLsbD_or]
  have e : ∀ w, w < 19 → ∀ k, k < 19 → ((1 : Int32) <<< (nI w &&& 31)).toBitVec.getLsbD k = decide (k = w) := by decide +kernel
  rw [e w hw k hk]
  simp
theorem tB_0 (k : Nat) (hk : k < 19) : ¬ tB 0 k := by
  rw [tB_iff 0 k hk]
  show ¬ (0#32).getLsbD k = true
  simp
/-- the reference's reader touched nothing else -/
def rsc (M M' : aG) : Prop := (∀ k, (k < 2 ∨ k = 4 ∨ k = 11 ∨ k = 12 ∨ 14 < k) → M'.1 k = M.1 k) ∧ M'.2.2 = M.2.2 ∧ (∀ k, (k = 0 ∨ 17 < k) → M'.2.1 k = M.2.1 k) ∧ ∀ k, 0 < k → k < 18 → (M'.2.1 k).length = (M.2.1 k).length ∧ ∀ i, i < mlen k / 2 → fG M' k i = fG M k i
theorem rsc.r {M : aG} : rsc M M := ⟨fun _ _ => rfl, rfl, fun _ _ => rfl, fun _ _ _ => ⟨rfl, fun _ _ => rfl⟩⟩
theorem rsc.t {M M' M'' : aG} (h : rsc M M') (h' : rsc M' M'') : rsc M M'' := ⟨fun k hk => (h'.1 k hk).trans (h.1 k hk), h'.2.1.trans h.2.1, fun k hk => (h'.2.2.1 k hk).trans (h.2.2.1 k hk), fun k h0 h1 => ⟨(h'.2.2.2 k h0 h1).1.trans (h.2.2.2 k h0 h1).1, fun i hi => ((h'.2.2.2 k h0 h1).2 i hi).trans ((h.2.2.2 k h0 h1).2 i hi)⟩⟩
theorem rsc_tsc {M M' : aG} (h : tsc M M') : rsc M M' := ⟨fun k hk => h.2 k (by omega), by rw [h.1], fun k _ => by rw [h.1], fun k _ _ => ⟨by rw [h.1], fun i _ => h.f k i⟩⟩
theorem rsc_up {M : aG} {k j : Nat} {v : Int32} (hk : 0 < k) (hk2 : k < 18) (hj : mlen k / 2 ≤ j) (hl : j < (M.2.1 k).length) : rsc M (upR M k j v) := by
  refine ⟨fun _ _ => rfl, rfl, fun q hq => gA_n (by omega), fun q h0 h1 => ?_⟩
  by_cases c : q = k
  · subst c
    refine ⟨by show ((upR M q j v).2.1 q).length = _; unfold upR; rw [gA_s, List.length_set], fun i hi => ?_⟩
    show ((upR M q j v).2.1 q).getD i 0 = _
    unfold upR
    rw [gA_s, ia_set_getD hl, if_neg (by omega)]
    rfl
  · have e : (upR M k j v).2.1 q = M.2.1 q := gA_n c
    exact ⟨by rw [e], fun i hi => by unfold fG; rw [e]⟩
theorem rsc_td {M : aG} {w : Nat} : rsc M (tdM M w) := ⟨fun k hk => gI_n (by omega), rfl, fun _ _ => rfl, fun _ _ _ => ⟨rfl, fun _ _ => rfl⟩⟩
theorem pt_get {f : Nat × Nat → Int32} : ∀ out w (l : List Int32) i, i < 64 → (ptL f w out l).getD i 0 = l.getD i 0
  | [], _, _, _, _ => rfl
  | e :: out, w, l, i, hi => by
    show (ptL f (w + 1) out (l.set (64 + w) (f e))).getD i 0 = _
    rw [pt_get out (w + 1) _ i hi]
    by_cases c : 64 + w < l.length
    · rw [ia_set_getD c, if_neg (by omega)]
    · rw [List.set_eq_of_length_le (by omega)]
theorem rsc_rSt {M : aG} {by_ : Nat → Nat} {T w0 i : Nat} {W : Int32} {op kn : Nat} {out : List (Nat × Nat)} (hl : lnM M) : rsc M (rSt M by_ T w0 i W op kn out) := by
  have l1 : (M.2.1 1).length = 16 := hl 1 (by decide)
  refine ⟨fun k hk => ?_, rfl, fun k hk => ?_, fun k h0 h1 => ?_⟩
  · show (if k = 14 then nI kn else if k = 13 then nI op else if k = 8 then W else if k = 7 then _ else if k = 6 then _ else if k = 5 then _ else M.1 k) = M.1 k
    rw [if_neg (by omega), if_neg (by omega), if_neg (by omega), if_neg (by omega), if_neg (by omega), if_neg (by omega)]
  · show (if k = 17 then _ else if k = 16 then _ else if k = 1 then _ else M.2.1 k) = M.2.1 k
    rw [if_neg (by omega), if_neg (by omega), if_neg (by omega)]
  · by_cases c17 : k = 17
    · subst c17
      exact ⟨pt_l _ _ _, fun i hi => pt_get _ _ _ i (by have : mlen 17 / 2 = 64 := rfl; omega)⟩
    · by_cases c16 : k = 16
      · subst c16
        exact ⟨pt_l _ _ _, fun i hi => pt_get _ _ _ i (by have : mlen 16 / 2 = 64 := rfl; omega)⟩
      · by_cases c1 : k = 1
        · subst c1
          refine ⟨by show ((M.2.1 1).set 15 _).length = _; rw [List.length_set], fun i hi => ?_⟩
          have : mlen 1 / 2 = 8 := rfl
          show ((M.2.1 1).set 15 _).getD i 0 = (M.2.1 1).getD i 0
          rw [ia_set_getD (by omega), if_neg (by omega)]
        · have e : (rSt M by_ T w0 i W op kn out).2.1 k = M.2.1 k := by
            show (if k = 17 then _ else if k = 16 then _ else if k = 1 then _ else M.2.1 k) = M.2.1 k
            rw [if_neg c17, if_neg c16, if_neg c1]
          exact ⟨by rw [e], fun i hi => by unfold fG; rw [e]⟩
/-- people, prices, tones, calls as read so far -/
def hP (S : aG) (F : aW) (M : aG) (p : Nat) : Prop := ∀ i, i < p → fG M 2 (6 + i) = fG S 0 i ∧ fG M 3 (6 + i) = fG S 1 i ∧ fG M 4 (6 + i) = fA F 0 i
def hN (S : aG) (M : aG) (n : Nat) : Prop := ∀ i, i < n → fG M 8 (6 + i) = fG S 2 i ∧ fG M 9 (6 + i) = fG S 3 i ∧ ¬ fG S 2 i < 0
def hT (F : aW) (M : aG) (p t : Nat) : Prop := ∀ i, i < t → fG M 5 (8 + i) = fA F 2 i ∧ fG M 6 (8 + i) = fA F 3 i ∧ fG M 7 (8 + i) = fA F 4 i ∧ fA F 5 i = 0 ∧ ∃ m, m < p ∧ fA F 2 i = nI m
def hC (F : aW) (M : aG) (p r : Nat) : Prop := ∀ i, i < r → fG M 10 (10 + i) = fA F 6 i ∧ fG M 11 (10 + i) = fA F 7 i ∧ fG M 12 (10 + i) = fA F 8 i ∧ fG M 13 (10 + i) = fA F 9 i ∧ fA F 10 i = 0 ∧ fA F 11 i = 0 ∧ (∃ m, m < p ∧ fA F 6 i = nI m) ∧ (∃ m, m < p ∧ fA F 7 i = nI m) ∧ (∃ u, u ≤ 12000 ∧ fA F 8 i = nI u) ∧ ∃ u, u ≤ 9 ∧ fA F 9 i = nI u
/-- lines, tries, seed: told or not -/
def hV (S : aG) (M : aG) : Prop := ((S.1 2 = -1 ∧ fG M 1 12 = 3 ∧ ¬ tB (M.1 2) 4) ∨ (S.1 2 ≠ -1 ∧ fG M 1 12 = S.1 2 ∧ tB (M.1 2) 4)) ∧ ((S.1 3 = -1 ∧ fG M 1 13 = 3 ∧ ¬ tB (M.1 2) 5) ∨ (S.1 3 ≠ -1 ∧ fG M 1 13 = S.1 3 ∧ tB (M.1 2) 5)) ∧ ((S.1 4 = -1 ∧ ¬ tB (M.1 2) 6) ∨ (S.1 4 ≠ -1 ∧ tB (M.1 2) 6))
def hL (L : aG) (M : aG) (kn : Nat) : Prop := L.1 0 = nI kn ∧ L.1 1 = nI kn ∧ M.1 14 = nI kn ∧ fG M 1 15 = nI kn ∧ kn ≤ 64 ∧ M.1 13 = nI 0 ∧ ∀ k, k < 3 → fG M 14 (3 + k) = fG L 2 k ∧ fG M 15 (3 + k) = fG L 3 k ∧ ∃ a b, fG L 2 k = nI a ∧ fG L 3 k = nI b ∧ a ≤ kn ∧ b ≤ kn ∧ (tB (M.1 2) (16 + k) ↔ a < b) ∧ (a < b → wfR (fG L 0) (b - a) a 0 ∧ ∀ i, a ≤ i → i < b → tkR (fG L 0 i) (fG L 1 i) (fG M 16 (64 + i)) (fG M 17 (64 + i)))
/-- what was read so far -/
def hR (S L : aG) (F : aW) (M : aG) (p n t r kn : Nat) : Prop := (wfS S p n ∧ wfL L ∧ wfW F t r ∧ F.1 0 = 0 ∧ F.1 1 = 0 ∧ (∀ i, i < 6 → fA F 1 i = 0) ∧ (∀ i, pcX F i) ∧ ∀ i, vpS S i) ∧ (fG M 1 8 = nI p ∧ fG M 1 9 = nI t ∧ fG M 1 10 = nI n ∧ fG M 1 11 = nI r) ∧ hP S F M p ∧ hN S M n ∧ hT F M p t ∧ hC F M p r ∧ hV S M ∧ hL L M kn
