/-! round: balls, and who has spoken with whom. -/
section RD2
variable {st fr to_ : Nat → Int32} {r p s : Nat}
def blB (st fr to_ : Nat → Int32) (r s k u : Nat) : Prop := bB (blF st fr to_ r ((1 : Int32) <<< (nI s &&& 31)) k) u = true
theorem bl_0 (hs : s < 6) {u : Nat} (hu : u < 6) : blB st fr to_ r s 0 u ↔ u = s := by
  unfold blB blF
  rw [bB_one6 hs (by omega), decide_eq_true_iff]
  exact ⟨fun h => h.symm, fun h => h.symm⟩
theorem bl_s (hp : p ≤ 6) (hf : ∀ i, i < r → ∃ m, m < p ∧ fr i = nI m) (ht : ∀ i, i < r → ∃ m, m < p ∧ to_ i = nI m) {k v : Nat} (hv : v < 6) : blB st fr to_ r s (k + 1) v ↔ blB st fr to_ r s k v ∨ ∃ u, u < p ∧ blB st fr to_ r s k u ∧ adP st fr to_ r u v := by
  unfold blB
  rw [blF, bB_or, Bool.or_eq_true, cw_bit hp hf ht hv r (Nat.le_refl r)]
  generalize blF st fr to_ r ((1 : Int32) <<< (nI s &&& 31)) k = P
  constructor
  · rintro (z | ⟨i, hi, h1, a, b, ha, hb, ea, eb, h2, h3⟩)
    · exact Or.inl z
    · rcases h3 with rfl | rfl
      · rcases h2 with h2 | h2
        · exact Or.inl h2
        · exact Or.inr ⟨b, hb, h2, i, hi, h1, Or.inr ⟨ea, eb⟩⟩
      · rcases h2 with h2 | h2
        · exact Or.inr ⟨a, ha, h2, i, hi, h1, Or.inl ⟨ea, eb⟩⟩
        · exact Or.inl h2
  · rintro (z | ⟨u, hu, h1, i, hi, h2, h3⟩)
    · exact Or.inl z
    · refine Or.inr ⟨i, hi, h2, ?_⟩
      obtain ⟨a, ha, ea⟩ := hf i hi
      obtain ⟨b, hb, eb⟩ := ht i hi
      refine ⟨a, b, ha, hb, ea, eb, ?_⟩
      rcases h3 with ⟨e1, e2⟩ | ⟨e1, e2⟩
      · have x1 : a = u := (nI_eq (by omega) (by omega)).mp (ea.symm.trans e1)
        have x2 : b = v := (nI_eq (by omega) (by omega)).mp (eb.symm.trans e2)
        subst x1; subst x2
        exact ⟨Or.inl h1, Or.inr rfl⟩
      · have x1 : a = v := (nI_eq (by omega) (by omega)).mp (ea.symm.trans e1)
        have x2 : b = u := (nI_eq (by omega) (by omega)).mp (eb.symm.trans e2)
        subst x1; subst x2
        exact ⟨Or.inr h1, Or.inl rfl⟩
theorem bl_mono {k j u : Nat} (h : k ≤ j) (hb : blB st fr to_ r s k u) : blB st fr to_ r s j u := by
  induction j with
  | zero =>
    have : k = 0 := by omega
    subst this
    exact hb
  | succ j ih =>
    by_cases c : k = j + 1
    · subst c; exact hb
    · have := ih (by omega)
      unfold blB at *
      rw [blF, bB_or, this]
      rfl
end RD2
section O46
variable (xs : List Int32) (d : Nat) {h : ia_H} {a : Nat} {M S L : aG} {X : aW} {p n r t q : Nat}
theorem p_spoken (hs : rsM M S L r p n) (hn : NWr X M t r p q) (u v : Nat) : ∃ b : Int32, (b = 0 ↔ ¬ adP (fA X 10) (fA X 6) (fA X 7) r u v) ∧ ia_cal xs (d + 2) im_Mod_haveSpoken [.ref a, .int (nI u), .int (nI v)] (pM h a M) = some (some (.int b), pM h a M) := by
  have hl := hs.1
  have hr10 := hn.1.1.2.2.2.1
  have n3 : rd (M.2.1 1) (3 : Int32) = some (nI r) := by rw [(num_M hl).2.2.2.1, hs.2.2.2.1]
  rw [iu_Mod_haveSpoken, iq_Mod_haveSpoken_0]
  have key : ∀ k i N, i + k = r → 2 * k + 1 ≤ N → (∀ j, j < i → ¬ ((fA X 10 j = 1 ∨ fA X 10 j = 2) ∧ ((fA X 6 j = nI u ∧ fA X 7 j = nI v) ∨ (fA X 6 j = nI v ∧ fA X 7 j = nI u)))) → ∃ b : Int32, (b = 0 ↔ ¬ adP (fA X 10) (fA X 6) (fA X 7) r u v) ∧ ia_qr xs (ia_cal xs (d + 1)) im_Mod_haveSpoken N 2 [.ref a, .int (nI u), .int (nI v), .int (nI i)] [] (pM h a M) = some (some (.int b), pM h a M) := by
    intro k
    induction k with
    | zero =>
      intro i N hi hN hno
      obtain ⟨N, rfl⟩ : ∃ k, N = k + 1 := ⟨N - 1, by omega⟩
      have : i = r := by omega
      subst this
      refine ⟨0, ⟨fun _ ⟨j, hj, h1, h2⟩ => hno j hj ⟨h1, h2⟩, fun _ => rfl⟩, ?_⟩
      rw [iq_Mod_haveSpoken_2]
      simp only [↓pM_Rb, ↓pM_ldb, ↓bs n3, ↓if_n (nI_nlt (Nat.le_refl i) (show i < 2 ^ 31 by omega)), ↓ok0]
    | succ k ih =>
      intro i N hi hN hno
      obtain ⟨N, rfl⟩ : ∃ k, N = k + 1 + 1 := ⟨N - 2, by omega⟩
      have hir : i < r := by omega
      have u10 : rd (M.2.1 29) (nI i) = some (fA X 10 i) := d0_r hn hl (k := 10) (by decide) (by decide) hir
      have u6 : rd (M.2.1 10) (nI i) = some (fA X 6 i) := by
        have := rdk (k := 10) (i := i) hl (by decide) (show i < 20 by omega) (by decide)
        rw [(hn.2.1 i hir).1] at this
        exact this
      have u7 : rd (M.2.1 11) (nI i) = some (fA X 7 i) := by
        have := rdk (k := 11) (i := i) hl (by decide) (show i < 20 by omega) (by decide)
        rw [(hn.2.1 i hir).2] at this
        exact this
      have next : ∀ N, 2 * k + 1 ≤ N → ¬ ((fA X 10 i = 1 ∨ fA X 10 i = 2) ∧ ((fA X 6 i = nI u ∧ fA X 7 i = nI v) ∨ (fA X 6 i = nI v ∧ fA X 7 i = nI u))) → ∃ b : Int32, (b = 0 ↔ ¬ adP (fA X 10) (fA X 6) (fA X 7) r u v) ∧ ia_qr xs (ia_cal xs (d + 1)) im_Mod_haveSpoken N 2 [.ref a, .int (nI u), .int (nI v), .int (nI (i + 1))] [] (pM h a M) = some (some (.int b), pM h a M) := fun N hN hno2 => ih (i + 1) N (by omega) hN (fun j hj => by
        by_cases c : j = i
        · subst c; exact hno2
        · exact hno j (by omega))
      have yes : (fA X 10 i = 1 ∨ fA X 10 i = 2) → ((fA X 6 i = nI u ∧ fA X 7 i = nI v) ∨ (fA X 6 i = nI v ∧ fA X 7 i = nI u)) → ((1 : Int32) = 0 ↔ ¬ adP (fA X 10) (fA X 6) (fA X 7) r u v) := fun h1 h2 => ⟨fun e => absurd e (by decide), fun z => absurd ⟨i, hir, h1, h2⟩ z⟩
      have th : thruI (fA X 10 i) = 0 ↔ ¬ (fA X 10 i = 1 ∨ fA X 10 i = 2) := by
        unfold thruI
        by_cases c1 : fA X 10 i = 1
        · rw [c1]; decide
        · by_cases c2 : fA X 10 i = 2
          · rw [c2]; decide
          · simp [c1, c2]
      rw [iq_Mod_haveSpoken_2]
      simp only [↓pM_Rb, ↓pM_ldb, ↓bs n3, ↓if_p (nI_lt hir (show r < 2 ^ 31 by omega)), ↓bs u10, ↓cI_of (m_isThrough xs d _ _), ↓bs u6, ↓bs u7, nI_1, ↓ok1]
      have at26 : ∀ N, 2 * k + 1 ≤ N → (fA X 10 i = 1 ∨ fA X 10 i = 2) → ¬ (fA X 6 i = nI u ∧ fA X 7 i = nI v) → ∃ b : Int32, (b = 0 ↔ ¬ adP (fA X 10) (fA X 6) (fA X 7) r u v) ∧ ia_qr xs (ia_cal xs (d + 1)) im_Mod_haveSpoken (N + 1) 26 [.ref a, .int (nI u), .int (nI v), .int (nI i)] [] (pM h a M) = some (some (.int b), pM h a M) := by
        intro N hN h1 h2
        rw [iq_Mod_haveSpoken_26]
        simp only [↓pM_Rb, ↓pM_ldb, ↓bs u6, ↓bs u7, nI_1, ↓ok1]
        by_cases c1 : fA X 6 i = nI v
        · by_cases c2 : fA X 7 i = nI u
          · rw [if_pos c1, if_pos c2]
            exact ⟨1, yes h1 (Or.inr ⟨c1, c2⟩), rfl⟩
          · rw [if_pos c1, if_neg c2]
            exact next N hN (fun z => by rcases z.2 with z | z; exact h2 z; exact c2 z.2)
        · rw [if_neg c1]
          exact next N hN (fun z => by rcases z.2 with z | z; exact h2 z; exact c1 z.1)
      by_cases ct : thruI (fA X 10 i) = 0
      · rw [if_pos ct]
        exact next (N + 1) (by omega) (fun z => th.mp ct z.1)
      · have h1 : fA X 10 i = 1 ∨ fA X 10 i = 2 := Classical.byContradiction fun z => ct (th.mpr z)
        rw [if_neg ct]
        by_cases c1 : fA X 6 i = nI u
        · by_cases c2 : fA X 7 i = nI v
          · rw [if_pos c1, if_pos c2]
            exact ⟨1, yes h1 (Or.inl ⟨c1, c2⟩), rfl⟩
          · rw [if_pos c1, if_neg c2]
            exact at26 N (by omega) h1 (fun z => c2 z.2)
        · rw [if_neg c1]
          exact at26 N (by omega) h1 (fun z => c1 z.1)
  exact key r 0 _ (by omega) (by omega) (fun j hj => by omega)
end O46
