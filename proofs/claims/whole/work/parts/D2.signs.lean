/-! text: the reference takes a sign. -/
section DX2
variable (xs : List Int32) (d : Nat) {h : ia_H} {a : Nat} {M N : aG} {by_ : Nat → Nat} {T : Nat}
/-- the reference's value of a sign -/
def svN (K b : Nat) : Nat := if K = 34 then 256 else if K = 35 then 257 else if K = 37 then 258 else b
def sgM (M : aG) (s v j : Nat) : aG := gI (gI (gI M 5 (nI j)) 7 (nI s)) 8 (nI v)
theorem p_sign74 {s v i F : Nat} (hv : v < 1000) : ia_qr xs (ia_cal xs d) im_Mod_sign (F + 1) 74 [.ref a, .float 0] [] (pM h a (sgM M s v (i + 1))) = some (none, pM h a (sgM M s v (i + if 256 ≤ v then 2 else 1))) := by
  have q8 : (sgM M s v (i + 1)).1 8 = nI v := gI_s
  have q5 : (sgM M s v (i + 1)).1 5 = nI (i + 1) := rfl
  rw [iq_Mod_sign_74]
  simp only [↓pM_Ib, q8, q5, ↓pM_pfb, nI_1]
  by_cases c : 256 ≤ v
  · rw [if_neg (show ¬ nI v < (256 : Int32) from nI_nlt (b := 256) c (by omega)), if_pos c]
    show some (none, pM h a (gI (gI (gI (gI M 5 (nI (i + 1))) 7 (nI s)) 8 (nI v)) 5 (nI (i + 1 + 1)))) = some (none, pM h a (gI (gI (gI M 5 (nI (i + 2))) 7 (nI s)) 8 (nI v)))
    rw [gI_cm (Z := gI (gI M 5 (nI (i + 1))) 7 (nI s)) (show 8 ≠ 5 by decide), gI_cm (Z := gI M 5 (nI (i + 1))) (show 7 ≠ 5 by decide), gI_I]
  · rw [if_pos (show nI v < (256 : Int32) from nI_lt (b := 256) (by omega) (by decide)), if_neg c]
theorem p_sign (hb : txB N M by_ T) (hL : M.1 4 = nI T) (i : Nat) (h5 : M.1 5 = nI i) (hi : i < T) : ia_cal xs (d + 2) im_Mod_sign [.ref a, .int (nI (by_ i))] (pM h a M) = some (none, pM h a (sgM M (if (sgN by_ T i).1 = 1 then 5 else 3) (svN (sgN by_ T i).1 (by_ i)) (i + (sgN by_ T i).2))) := by
  have hT7 := hb.1
  have hbi := (hb.2.2.2 i hi).1
  have hnb : (if i + 1 < T then by_ (i + 1) else 0) < 256 := by
    split
    · rename_i c; exact (hb.2.2.2 (i + 1) c).1
    · decide
  have he : ∀ s v, ia_cal xs (d + 1) im_Mod_here [.ref a] (pM h a (sgM M s v (i + 1))) = some (some (.int (if i + 1 < T then nI (by_ (i + 1)) else -1)), pM h a (sgM M s v (i + 1))) := fun s v =>
    p_here xs d (h := h) (a := a) (M := sgM M s v (i + 1)) (N := N) (by_ := by_) (T := T) hb hL rfl (by omega)
  have hen : ∀ k, k < 256 → 0 < k → ((if i + 1 < T then nI (by_ (i + 1)) else -1) = nI k ↔ (if i + 1 < T then by_ (i + 1) else 0) = k) := fun k hk h0 => by
    by_cases c : i + 1 < T
    · rw [if_pos c, if_pos c]
      have := (hb.2.2.2 (i + 1) c).1
      exact nI_eq (by omega) (by omega)
    · rw [if_neg c, if_neg c]
      constructor
      · intro z
        have : ¬ nI k < 0 := nI_pos (by omega)
        rw [← z] at this
        exact absurd (show (-1 : Int32) < 0 by decide) this
      · intro z; omega
  unfold sgN
  generalize (if i + 1 < T then nI (by_ (i + 1)) else -1) = nv at *
  generalize (if i + 1 < T then by_ (i + 1) else 0) = n at *
  generalize by_ i = b at *
  have h61 : nv = (61 : Int32) ↔ n = 61 := hen 61 (by decide) (by decide)
  have h62 : nv = (62 : Int32) ↔ n = 62 := hen 62 (by decide) (by decide)
  have eb : ∀ k, k < 256 → (nI b = nI k ↔ b = k) := fun k hk => nI_eq (by omega) (by omega)
  have w8 : ∀ s v w j, gI (sgM M s v j) 8 (nI w) = sgM M s w j := fun s v w j => gI_I
  have p64 : ∀ F s, ia_qr xs (ia_cal xs (d + 1)) im_Mod_sign (F + 2) 64 [.ref a, .int (nI b)] [] (pM h a (sgM M s b (i + 1))) = some (none, pM h a (if b = 62 ∧ n = 61 then sgM M s 258 (i + 2) else sgM M s b (i + 1))) := fun F s => by
    rw [iq_Mod_sign_64]
    by_cases c : b = 62
    · rw [if_pos (show nI b = (62 : Int32) from (eb 62 (by decide)).mpr c)]
      simp only [↓pM_clsb, ↓cI_of (he s b)]
      by_cases c2 : n = 61
      · rw [if_pos (h61.mpr c2), if_pos ⟨c, c2⟩]
        simp only [↓pM_pfb]
        have := p_sign74 xs (d + 1) (h := h) (a := a) (M := M) (s := s) (v := 258) (i := i) (F := F) (by decide)
        rw [if_pos (by decide)] at this
        rw [← this]
        exact congrArg (fun z => ia_qr xs (ia_cal xs (d + 1)) im_Mod_sign (F + 1) 74 [.ref a, .float 0] [] (pM h a z)) (w8 s b 258 (i + 1))
      · rw [if_neg (fun z => c2 (h61.mp z)), if_neg (fun z => c2 z.2), p_sign74 xs (d + 1) (by omega), if_neg (by omega)]
    · rw [if_neg (show ¬ nI b = (62 : Int32) from fun z => c ((eb 62 (by decide)).mp z)), if_neg (fun z => c z.1), p_sign74 xs (d + 1) (by omega), if_neg (by omega)]
  have p64' : ∀ F s v, b = 60 → v < 1000 → 256 ≤ v → ia_qr xs (ia_cal xs (d + 1)) im_Mod_sign (F + 2) 64 [.ref a, .int (nI b)] [] (pM h a (sgM M s v (i + 1))) = some (none, pM h a (sgM M s v (i + 2))) := fun F s v hb0 hv hv2 => by
    rw [iq_Mod_sign_64, if_neg (show ¬ nI b = (62 : Int32) from fun z => by have := (eb 62 (by decide)).mp z; omega), p_sign74 xs (d + 1) hv, if_pos hv2]
  have p40 : ∀ F s, ia_qr xs (ia_cal xs (d + 1)) im_Mod_sign (F + 4) 40 [.ref a, .int (nI b)] [.int (nI s), .ref a] (pM h a (gI M 5 (nI (i + 1)))) = some (none, pM h a (sgM M s (svN (sgF b n).1 b) (i + (sgF b n).2))) := fun F s => by
    have e0 : gI (gI (gI M 5 (nI (i + 1))) 7 (nI s)) 8 (nI b) = sgM M s b (i + 1) := rfl
    rw [iq_Mod_sign_40]
    simp only [↓pM_pfb, e0]
    by_cases c : b = 60
    · rw [if_pos (show nI b = (60 : Int32) from (eb 60 (by decide)).mpr c)]
      simp only [↓pM_clsb, ↓cI_of (he s b)]
      by_cases c2 : n = 61
      · rw [if_pos (h61.mpr c2)]
        simp only [↓pM_pfb]
        have e1 : gI (sgM M s b (i + 1)) 8 (256 : Int32) = sgM M s 256 (i + 1) := w8 s b 256 (i + 1)
        rw [e1, iq_Mod_sign_54, if_pos (show nI b = (60 : Int32) from (eb 60 (by decide)).mpr c)]
        simp only [↓pM_clsb, ↓cI_of (he s 256)]
        rw [if_neg (fun z => by have := h62.mp z; omega), p64' F s 256 c (by decide) (by decide)]
        simp [sgF, c, c2, svN]
      · rw [if_neg (fun z => c2 (h61.mp z)), iq_Mod_sign_54, if_pos (show nI b = (60 : Int32) from (eb 60 (by decide)).mpr c)]
        simp only [↓pM_clsb, ↓cI_of (he s b)]
        by_cases c3 : n = 62
        · rw [if_pos (h62.mpr c3)]
          simp only [↓pM_pfb]
          have e1 : gI (sgM M s b (i + 1)) 8 (257 : Int32) = sgM M s 257 (i + 1) := w8 s b 257 (i + 1)
          rw [e1, p64' F s 257 c (by decide) (by decide)]
          simp [sgF, c, c3, svN]
        · rw [if_neg (fun z => c3 (h62.mp z)), p64 F s, if_neg (by omega)]
          simp [sgF, c, c2, c3, svN]
    · rw [if_neg (show ¬ nI b = (60 : Int32) from fun z => c ((eb 60 (by decide)).mp z)), iq_Mod_sign_54, if_neg (show ¬ nI b = (60 : Int32) from fun z => c ((eb 60 (by decide)).mp z)), p64 F s]
      by_cases c2 : b = 62
      · by_cases c3 : n = 61
        · rw [if_pos ⟨c2, c3⟩]
          simp [sgF, c2, c3, svN]
        · rw [if_neg (fun z => c3 z.2)]
          simp [sgF, c2, c3, svN]
      · rw [if_neg (fun z => c2 z.1)]
        have k4 := (sgK_ok b hbi).1
        unfold sgF svN
        rw [if_neg c, if_neg c2]
        show _ = some (none, pM h a (sgM M s (if sgK b = 34 then 256 else if sgK b = 35 then 257 else if sgK b = 37 then 258 else b) (i + 1)))
        rw [if_neg (by omega), if_neg (by omega), if_neg (by omega)]
  have p37 : ∀ F, ia_qr xs (ia_cal xs (d + 1)) im_Mod_sign (F + 5) 37 [.ref a, .int (nI b)] [.ref a] (pM h a (gI M 5 (nI (i + 1)))) = some (none, pM h a (sgM M 3 (svN (sgF b n).1 b) (i + (sgF b n).2))) := fun F => by
    rw [iq_Mod_sign_37]
    exact p40 F 3
  have k1 : ((sgF b n).1 = 1) ↔ (b ≠ 59 ∧ b ≠ 40 ∧ b ≠ 41 ∧ b ≠ 43 ∧ b ≠ 45 ∧ b ≠ 42 ∧ b ≠ 47 ∧ b ≠ 60 ∧ b ≠ 61 ∧ b ≠ 62) := by
    unfold sgF sgK
    repeat' split
    all_goals first
      | omega
      | (constructor <;> intro z <;> simp_all <;> omega)
      | (constructor <;> intro z <;> simp_all)
  rw [iu_Mod_sign, show (1000000 : Nat) = 999994 + 5 + 1 from rfl, iq_Mod_sign_0]
  simp only [↓pM_Ib, h5, ↓pM_pfb, nI_1]
  have g37 := p37 999994
  have g40 := p40 999995 5
  have st : ∀ k, k < 256 → ∀ A : Option ia_R, (b = k → (sgF b n).1 ≠ 1) → (b ≠ k → A = some (none, pM h a (sgM M (if (sgF b n).1 = 1 then 5 else 3) (svN (sgF b n).1 b) (i + (sgF b n).2)))) → (if nI b = nI k then ia_qr xs (ia_cal xs (d + 1)) im_Mod_sign (999994 + 5) 37 [.ref a, .int (nI b)] [.ref a] (pM h a (gI M 5 (nI (i + 1)))) else A) = some (none, pM h a (sgM M (if (sgF b n).1 = 1 then 5 else 3) (svN (sgF b n).1 b) (i + (sgF b n).2))) := fun k hk A hA hB => by
    by_cases c : b = k
    · rw [if_pos ((eb k hk).mpr c), g37, if_neg (hA c)]
    · rw [if_neg (fun z => c ((eb k hk).mp z))]
      exact hB c
  refine st 59 (by decide) _ (fun c z => (k1.mp z).1 c) fun c1 => ?_
  refine st 40 (by decide) _ (fun c z => (k1.mp z).2.1 c) fun c2 => ?_
  refine st 41 (by decide) _ (fun c z => (k1.mp z).2.2.1 c) fun c3 => ?_
  refine st 43 (by decide) _ (fun c z => (k1.mp z).2.2.2.1 c) fun c4 => ?_
  refine st 45 (by decide) _ (fun c z => (k1.mp z).2.2.2.2.1 c) fun c5 => ?_
  refine st 42 (by decide) _ (fun c z => (k1.mp z).2.2.2.2.2.1 c) fun c6 => ?_
  refine st 47 (by decide) _ (fun c z => (k1.mp z).2.2.2.2.2.2.1 c) fun c7 => ?_
  refine st 60 (by decide) _ (fun c z => (k1.mp z).2.2.2.2.2.2.2.1 c) fun c8 => ?_
  refine st 61 (by decide) _ (fun c z => (k1.mp z).2.2.2.2.2.2.2.2.1 c) fun c9 => ?_
  refine st 62 (by decide) _ (fun c z => (k1.mp z).2.2.2.2.2.2.2.2.2 c) fun c10 => ?_
  rw [if_pos (k1.mpr ⟨c1, c2, c3, c4, c5, c6, c7, c8, c9, c10⟩)]
  exact g40
end DX2
