/-! The law from its entry. -/
def ht0 : ia_H := (0, 0, fun _ => ia_dead)
section KX1
variable (xs : List Int32) (d : Nat)
theorem lw_run (hL : xs.length ≤ 3072) (n : Nat) (hn : 1540 ≤ n) : lwR 720 9400 (ia_qr xs (ia_cal xs (d + 120 + 20)) im_Law_law (n + 1) 0 [.retAddr 0, .float 0, .float 0, .float 0, .float 0, .float 0, .float 0] [] ht0) := by
  have f1 : ia_cal xs (d + 120 + 20) im_Eng_init [.ref ht0.1] (ia_new ht0 11 (.inr (.inr (9, ia_dfl 9)))) = some (none, tot (158, 2836, fun _ => ia_dead) 0 (giC 0)) := by
    rw [nw_hb]
    have := n_Eng (g := fun _ => ia_dead) (x := 0) (s := 11) xs (d + 135)
    rw [en_tot] at this
    exact this
  have f2 : ia_cal xs (d + 120 + 20) im_Mod_init [.ref (tot (158, 2836, fun _ => ia_dead) 0 (giC 0)).1] (ia_new (tot (158, 2836, fun _ => ia_dead) 0 (giC 0)) 69 (.inr (.inr (10, ia_dfl 10)))) = some (none, pM (200, 6284, (tot (158, 2836, fun _ => ia_dead) 0 (giC 0)).2.2) 158 giM) := by
    rw [nw_hb]
    exact n_Mod (g := (tot (158, 2836, fun _ => ia_dead) 0 (giC 0)).2.2) (a := 158) (s := 2905) xs (d + 137)
  have f3 : ia_new (pM (200, 6284, (tot (158, 2836, fun _ => ia_dead) 0 (giC 0)).2.2) 158 giM) 1 (.inr (.inl [0])) = bothH (201, 6285, fun k => if k = 200 then .inr (.inl [0]) else ia_dead) 0 158 (giC 0) giM := by
    refine ia_ext rfl rfl fun k => ?_
    show (if k = 200 then (.inr (.inl [0]) : ia_E) else if 158 ≤ k ∧ k < 158 + 42 then cM 158 giM (k - 158) else if 0 ≤ k ∧ k < 0 + 158 then tcell 0 (giC 0) (rid (k - 0)) (rloc (k - 0)) else ia_dead) = if 158 ≤ k ∧ k < 158 + 42 then cM 158 giM (k - 158) else if 0 ≤ k ∧ k < 0 + 158 then tcell 0 (giC 0) (rid (k - 0)) (rloc (k - 0)) else if k = 200 then .inr (.inl [0]) else ia_dead
    by_cases c : k = 200
    · rw [if_pos c, if_neg (by omega), if_neg (by omega), if_pos c]
    · rw [if_neg c, if_neg c]
  rw [iq_Law_law_0, cV_of f1, cV_of f2, if_neg (show ¬ (1 : Int32) < 0 by decide), if_pos (show Int32.toNatClampNeg 1 ≤ 100000 by decide), show Int32.toNatClampNeg 1 = 1 by decide]
  rw [show (List.replicate 1 0 : List Int64) = [0] from rfl, f3]
  have lp := lw_loop xs d (x := 0) (a := 158) (b := 200) hL (by decide) (by decide) 513 0 n (201, 6285, fun k => if k = 200 then .inr (.inl [0]) else ia_dead) (giC 0) giM (gi_Rp 0).l ⟨0, rfl⟩ (Nat.zero_le _) (by omega) (by omega)
  obtain ⟨h', g1, g2, g3⟩ := lp
  exact ⟨h', g1, Nat.le_trans g2 (by decide), Nat.le_trans g3 (by decide)⟩
end KX1
