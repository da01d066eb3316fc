/-! The class, new: as one heap. -/
def iwW : aW := (fun _ => 0, fun k => List.replicate ([6, 6, 8, 8, 8, 8, 10, 10, 10, 10, 10, 10].getD k 0) 0)
def giS (w : Nat) : aG := (fun k => [(0 : Int32), 0, -1, -1, -1].getD k 0, fun _ => List.replicate 6 0, fun _ => 0, fun _ => [], fun k => [w + 5, w + 18].getD k 0)
def giL : aG := (fun _ => 0, fun k => List.replicate ([64, 64, 3, 3].getD k 0) 0, fun _ => 0, fun k => List.replicate ([7, 64].getD k 0) 0, fun _ => 0)
def giQ (x : Nat) : aG := (fun k => [(0 : Int32), -1, 0, 0, 0].getD k 0, fun _ => [], fun _ => 0, fun _ => [], fun k => [x + 54, x + 79, x + 82].getD k 0)
def giT (x : Nat) : aG := (fun _ => 0, fun k => [List.replicate 0 (0 : Int32), wordL].getD k [], fun _ => 0, fun _ => [], fun _ => x + 80)
def giV : aG := (fun _ => 0, fun _ => List.replicate 72 0, fun _ => 0, fun _ => [], fun _ => 0)
def giE (w : Nat) : aG := (fun k => [(0 : Int32), 0, 0, -1, 0].getD k 0, fun _ => [], fun _ => 0, fun _ => [], fun _ => w + 1)
def giF (x : Nat) : aG := (fun _ => 0, fun _ => [], fun _ => 0, fun _ => [], fun k => [x + 110, x + 123].getD k 0)
def giU : aG := (fun k => [(0 : Int32), -1].getD k 0, fun _ => List.replicate 24 0, fun _ => 0, fun _ => [], fun _ => 0)
def giD : aG := (fun _ => 0, fun _ => List.replicate 20 0, fun _ => 0, fun _ => [], fun _ => 0)
def giN (x : Nat) : aG := (fun _ => 0, fun _ => List.replicate 700 0, fun _ => 0, fun _ => [], fun k => [x + 2, x + 27, x + 40, x + 53, x + 83, x + 109, x + 149, x + 154].getD k 0)
def giC (x : Nat) : aC := (fun k => match k with
  | 0 => giN x
  | 1 => giS (x + 2)
  | 2 => giL
  | 3 => giQ x
  | 4 => giS (x + 54)
  | 5 => giL
  | 6 => giT x
  | 7 => giV
  | 8 => giE (x + 83)
  | 9 => giS (x + 84)
  | 10 => giL
  | 11 => giF x
  | 12 => giE (x + 123)
  | 13 => giS (x + 124)
  | 14 => giL
  | 15 => giU
  | _ => giD, fun _ => iwW)
set_option maxRecDepth 100000 in
theorem en_cells (x : Nat) : rtab.map (fun q => tcell x (giC x) q.1 q.2) = enO x :: enD x := rfl
theorem rtab_len : rtab.length = 158 := by decide +kernel
theorem en_tot (g : Nat → ia_E) (x s : Nat) : hbB g x s (enO x :: enD x) = tot (x + 158, s, g) x (giC x) := by
  have hl : (enO x :: enD x).length = 158 := by rw [← en_cells, List.length_map, rtab_len]
  refine ia_ext ?_ rfl fun k => ?_
  · show x + (enO x :: enD x).length = x + 158
    rw [hl]
  · show (if x ≤ k ∧ k < x + (enO x :: enD x).length then (enO x :: enD x).getD (k - x) ia_dead else g k) = if x ≤ k ∧ k < x + 158 then tcell x (giC x) (rid (k - x)) (rloc (k - x)) else g k
    rw [hl]
    by_cases c : x ≤ k ∧ k < x + 158
    · rw [if_pos c, if_pos c, ← en_cells, List.getD_eq_getElem?_getD, List.getElem?_map]
      unfold rid rloc
      rw [List.getD_eq_getElem?_getD, List.getElem?_eq_getElem (by rw [rtab_len]; omega)]
      rfl
    · rw [if_neg c, if_neg c]
