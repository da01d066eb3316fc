/-! The law's code is as the class file has it (by kernel; written by wip/whole/genstart.py). -/
def ihB (t : Nat) : Bool := match ia_nth (ia_pg im_Law_law).1 t with
  | some e => ia_okB 11 false code (ia_pg im_Law_law).1 ret t e
  | none => true
set_option maxRecDepth 1000000 in
theorem ih_ok0 : (List.range 92).all (fun i => ihB (0 + i)) = true := by decide +kernel
set_option maxRecDepth 1000000 in
theorem ih_ok1 : (List.range 92).all (fun i => ihB (92 + i)) = true := by decide +kernel
set_option maxRecDepth 1000000 in
theorem ih_ok2 : (List.range 92).all (fun i => ihB (184 + i)) = true := by decide +kernel
set_option maxRecDepth 1000000 in
theorem ih_ok3 : (List.range 92).all (fun i => ihB (276 + i)) = true := by decide +kernel
set_option maxRecDepth 1000000 in
theorem ih_ok4 : (List.range 92).all (fun i => ihB (368 + i)) = true := by decide +kernel
set_option maxRecDepth 1000000 in
theorem ih_ok5 : (List.range 92).all (fun i => ihB (460 + i)) = true := by decide +kernel
set_option maxRecDepth 1000000 in
theorem ih_ok6 : (List.range 92).all (fun i => ihB (552 + i)) = true := by decide +kernel
set_option maxRecDepth 1000000 in
theorem ih_ok7 : (List.range 92).all (fun i => ihB (644 + i)) = true := by decide +kernel
set_option maxRecDepth 1000000 in
theorem ih_ok8 : (List.range 92).all (fun i => ihB (736 + i)) = true := by decide +kernel
set_option maxRecDepth 1000000 in
theorem ih_ok9 : (List.range 87).all (fun i => ihB (828 + i)) = true := by decide +kernel
set_option maxRecDepth 1000000 in
theorem ih_len : (ia_pg im_Law_law).1.length = 915 := by decide +kernel
theorem ih_part {a n t : Nat} (h : (List.range n).all (fun i => ihB (a + i)) = true) (h1 : a ≤ t) (h2 : t < a + n) : ihB t = true := by
  have := List.all_eq_true.mp h (t - a) (List.mem_range.mpr (by omega))
  rwa [show a + (t - a) = t by omega] at this
theorem ih_lt {ei : ia_I} : ∀ (l : List ia_I) (t : Nat), ia_nth l t = some ei → t < l.length := by
  intro l
  induction l with
  | nil => intro t h; cases t <;> cases h
  | cons x l ih =>
    intro t h
    cases t with
    | zero => exact Nat.zero_lt_succ _
    | succ t => exact Nat.succ_lt_succ (ih t h)
theorem ih_ok (t : Nat) (ei : ia_I) (ht : ia_nth (ia_pg im_Law_law).1 t = some ei) : ia_okB 11 false code (ia_pg im_Law_law).1 ret t ei = true := by
  have hlt := ih_lt _ _ ht
  rw [ih_len] at hlt
  have key : ihB t = true := by
    by_cases c0 : t < 92
    · exact ih_part ih_ok0 (by omega) (by omega)
    by_cases c1 : t < 184
    · exact ih_part ih_ok1 (by omega) (by omega)
    by_cases c2 : t < 276
    · exact ih_part ih_ok2 (by omega) (by omega)
    by_cases c3 : t < 368
    · exact ih_part ih_ok3 (by omega) (by omega)
    by_cases c4 : t < 460
    · exact ih_part ih_ok4 (by omega) (by omega)
    by_cases c5 : t < 552
    · exact ih_part ih_ok5 (by omega) (by omega)
    by_cases c6 : t < 644
    · exact ih_part ih_ok6 (by omega) (by omega)
    by_cases c7 : t < 736
    · exact ih_part ih_ok7 (by omega) (by omega)
    by_cases c8 : t < 828
    · exact ih_part ih_ok8 (by omega) (by omega)
    exact ih_part ih_ok9 (by omega) (by omega)
  unfold ihB at key
  rw [ht] at key
  exact key
theorem ih_pc0 : ia_pcOf (ia_pg im_Law_law).1 0 = 0 := rfl
