/-! A call, unfolded. -/
theorem ia_call_of {xs : List Int32} {d j : Nat} {as : List Value} {h : ia_H} (hf : (ia_loc (ia_pg j).2 as).length = (ia_pg j).2) : ia_cal xs (d + 1) j as h = ia_qr xs (ia_cal xs d) j 1000000 0 (ia_loc (ia_pg j).2 as) [] h := if_pos hf
