/-! At the beginning class and reference stand alike. -/
theorem rp_getD (n i : Nat) : (List.replicate n (0 : Int32)).getD i 0 = 0 := by
  rw [List.getD_eq_getElem?_getD, List.getElem?_replicate]
  split <;> rfl
theorem gi_X0 : wfX iwW 0 0 0 := ⟨⟨rfl, rfl, by omega, by omega, iw_ln.1, iw_ln.2.1, iw_ln.2.2⟩, by omega, fun i h => absurd h (Nat.not_lt_zero _), fun i h => absurd h (Nat.not_lt_zero _), fun i h => absurd h (Nat.not_lt_zero _)⟩
theorem gi_bd : bdX iwW 0 0 := ⟨rfl, fun i h => absurd h (Nat.not_lt_zero _), fun i h => absurd h (Nat.not_lt_zero _)⟩
theorem gi_cm : cmM giM iwW 0 := fun i h => absurd h (Nat.not_lt_zero _)
theorem gi_L : wfL giL := ⟨rfl, rfl, rfl, rfl, rfl, rfl⟩
theorem gi_G (w k i : Nat) : fG (giS w) k i = 0 := rp_getD 6 i
theorem gi_A (k i : Nat) : fA iwW k i = 0 := rp_getD _ i
theorem gi_GL (k i : Nat) : fG giL k i = 0 := rp_getD _ i
theorem gi_dk : dkA giM 0 iwW 0 0 0 := by
  refine ⟨rfl, rfl, rfl, fun k _ i h => absurd h (Nat.not_lt_zero _), fun k _ _ i h => absurd h (Nat.not_lt_zero _), fun k _ _ i h => absurd h (Nat.not_lt_zero _)⟩
theorem gi_nn : nnB 0 := ⟨0, by omega, rfl⟩
theorem gi_Rp (x : Nat) : Rp x (giC x) giM false 0 0 0 0 0 0 := by
  refine ⟨⟨⟨rfl, rfl, rfl, rfl, rfl, rfl, rfl, rfl⟩, ⟨rfl, rfl, rfl⟩, ⟨rfl, rfl⟩, fun τ => by cases τ <;> exact ⟨rfl, rfl⟩⟩, ⟨⟨rfl, rfl, by omega, by omega, rfl, rfl, rfl, rfl⟩, ⟨gi_L, fun k _ => ⟨0, 0, gi_GL 2 k, gi_GL 3 k, by omega, fun h => absurd h (by omega), by omega⟩⟩, ⟨gi_ln, rfl, rfl, rfl, by omega, by omega, by omega, fun i h => absurd h (Nat.not_lt_zero _), fun i h => absurd h (Nat.not_lt_zero _), fun k hk => ⟨?_, ?_⟩, fun k hk i h1 h2 => ?_⟩, fun i h => absurd h (Nat.not_lt_zero _), rfl, rfl, rfl, rfl, gi_X0, gi_bd, gi_cm, ⟨rfl, rfl, fun k _ i h => absurd h (Nat.not_lt_zero _), fun k _ _ i h => absurd h (Nat.not_lt_zero _), fun k _ _ i h => absurd h (Nat.not_lt_zero _)⟩⟩, ⟨gi_X0, gi_cm, gi_dk, gi_bd, by omega⟩, ⟨rfl, rfl, rfl, rfl, rfl, rfl⟩, ⟨rfl, iw_ln, Or.inl rfl⟩, ⟨fun k _ => rfl, 0, by omega, rfl, rfl, trivial⟩, ⟨fun k _ => rfl, 0, by omega, rfl, rfl, rfl, Or.inl rfl, fun i h => absurd h (Nat.not_lt_zero _)⟩, ⟨List.length_replicate, 0, by omega, rfl, rfl, fun i h => absurd h (Nat.not_lt_zero _)⟩, ⟨rfl, rfl⟩, ⟨fun k _ => rfl, gi_L, iw_ln, rfl, rfl, ?_, ?_, ?_⟩, iw_ln⟩
  · rw [show fG (giC x |>.1 (kL false)) 2 k = 0 from gi_GL 2 k]
    exact rp_getD _ k
  · rw [show fG (giC x |>.1 (kL false)) 3 k = 0 from gi_GL 3 k]
    exact rp_getD _ k
  · rw [show fG (giC x |>.1 (kL false)) 3 k = 0 from gi_GL 3 k] at h2
    exact absurd h2 (Nat.not_lt_zero _)
  · intro k _ i
    exact ⟨by rw [show fA ((giC x).2 k) 0 i = 0 from gi_A 0 i]; exact gi_nn, 0, by omega, gi_A 4 i⟩
  · intro τ i
    cases τ
    · exact ⟨by rw [show fG ((giC x).1 (kS false)) 1 i = 0 from gi_G _ 1 i]; decide, 0, by omega, gi_G _ 3 i⟩
    · exact ⟨by rw [show fG ((giC x).1 (kS true)) 1 i = 0 from gi_G _ 1 i]; decide, 0, by omega, gi_G _ 3 i⟩
  · intro i
    rw [show fG ((giC x).1 16) 2 i = 0 from rp_getD 20 i]
    exact gi_nn
