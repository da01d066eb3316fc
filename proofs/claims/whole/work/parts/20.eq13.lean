/-! Unfolding equations (written by program, checked by rfl). -/
set_option maxRecDepth 100000 in
set_option maxHeartbeats 4000000 in
theorem iq_Mod_goes_0 (xs : List Int32) (c : Nat → List Value → ia_H → Option ia_R) (n : Nat) (v0 : Nat) (v1 : Int32) (h : ia_H) :
  ia_qr xs c im_Mod_goes (n + 1) 0 [.ref v0, .int v1, .float 0] [] h = ((ia_putf h v0 10 35 (.int 0)).bind fun h1 => ((ia_getR h1 v0 10 16).bind fun r2 => ((ia_ald h1 r2 0 v1).bind fun x3 => (ia_qr xs c im_Mod_goes n 8 [.ref v0, .int v1, .int x3] [] h1)))) := rfl
set_option maxRecDepth 100000 in
set_option maxHeartbeats 4000000 in
theorem iq_Mod_goes_8 (xs : List Int32) (c : Nat → List Value → ia_H → Option ia_R) (n : Nat) (v0 : Nat) (v1 : Int32) (v2 : Int32) (h : ia_H) :
  ia_qr xs c im_Mod_goes (n + 1) 8 [.ref v0, .int v1, .int v2] [] h = ((ia_getR h v0 10 17).bind fun r1 => ((ia_ald h r1 0 v1).bind fun x2 => (if (v2 : Int32) < (x2 : Int32) then ((ia_getR h v0 10 18).bind fun r3 => ((ia_ald h r3 0 v2).bind fun x4 => (if (x4 : Int32) = (2 : Int32) then ((ia_getR h v0 10 19).bind fun r15 => ((ia_ald h r15 0 v2).bind fun x16 => (if ia_cls h v0 = 10 then (ia_cI (c im_Mod_works [.ref v0, .int x16] h) fun x18 h17 => (if (x18 : Int32) = (0 : Int32) then (if 0 = (0 : Int32) ∨ 0 = (1 : Int32) then some (some (.int 0), h17) else none) else (ia_qr xs c im_Mod_goes n 8 [.ref v0, .int v1, .int (v2 + 1)] [] h17))) else none))) else ((ia_getR h v0 10 34).bind fun r5 => ((ia_getI h v0 10 35).bind fun x6 => ((ia_getR h v0 10 18).bind fun r7 => ((ia_ald h r7 0 v2).bind fun x8 => (if (x8 : Int32) = (0 : Int32) then ((ia_getR h v0 10 19).bind fun r13 => ((ia_ald h r13 0 v2).bind fun x14 => (ia_qr xs c im_Mod_goes n 51 [.ref v0, .int v1, .int v2] [.long (Int32.toInt64 x14), .int x6, .ref r5] h))) else ((ia_getR h v0 10 33).bind fun r9 => ((ia_getR h v0 10 19).bind fun r10 => ((ia_ald h r10 0 v2).bind fun x11 => ((ia_lald h r9 x11).bind fun l12 => (ia_qr xs c im_Mod_goes n 51 [.ref v0, .int v1, .int v2] [.long l12, .int x6, .ref r5] h))))))))))))) else (if 1 = (0 : Int32) ∨ 1 = (1 : Int32) then some (some (.int 1), h) else none)))) := rfl
set_option maxRecDepth 100000 in
set_option maxHeartbeats 4000000 in
theorem iq_Mod_goes_51 (xs : List Int32) (c : Nat → List Value → ia_H → Option ia_R) (n : Nat) (v0 : Nat) (v1 : Int32) (v2 : Int32) (s0 : Int64) (s1 : Int32) (s2 : Nat) (h : ia_H) :
  ia_qr xs c im_Mod_goes (n + 1) 51 [.ref v0, .int v1, .int v2] [.long s0, .int s1, .ref s2] h = ((ia_last h s2 s1 s0).bind fun h1 => ((ia_getI h1 v0 10 35).bind fun x2 => ((ia_putf h1 v0 10 35 (.int (x2 + 1))).bind fun h3 => (ia_qr xs c im_Mod_goes n 8 [.ref v0, .int v1, .int (v2 + 1)] [] h3)))) := rfl
theorem iu_Mod_goes (xs : List Int32) (d : Nat) (v0 : Nat) (v1 : Int32) (h : ia_H) :
  ia_cal xs (d + 1) im_Mod_goes [.ref v0, .int v1] h = ia_qr xs (ia_cal xs d) im_Mod_goes 1000000 0 [.ref v0, .int v1, .float 0] [] h := ia_call_of (j := im_Mod_goes) rfl
theorem iq_Mod_hasLaw_0 (xs : List Int32) (c : Nat → List Value → ia_H → Option ia_R) (n : Nat) (v0 : Nat) (v1 : Int32) (h : ia_H) :
  ia_qr xs c im_Mod_hasLaw (n + 1) 0 [.ref v0, .int v1] [] h = ((ia_getR h v0 10 17).bind fun r1 => ((ia_ald h r1 0 v1).bind fun x2 => ((ia_getR h v0 10 16).bind fun r3 => ((ia_ald h r3 0 v1).bind fun x4 => (if (x4 : Int32) < (x2 : Int32) then (if 1 = (0 : Int32) ∨ 1 = (1 : Int32) then some (some (.int 1), h) else none) else (if 0 = (0 : Int32) ∨ 0 = (1 : Int32) then some (some (.int 0), h) else none)))))) := rfl
theorem iu_Mod_hasLaw (xs : List Int32) (d : Nat) (v0 : Nat) (v1 : Int32) (h : ia_H) :
  ia_cal xs (d + 1) im_Mod_hasLaw [.ref v0, .int v1] h = ia_qr xs (ia_cal xs d) im_Mod_hasLaw 1000000 0 [.ref v0, .int v1] [] h := ia_call_of (j := im_Mod_hasLaw) rfl
set_option maxRecDepth 100000 in
set_option maxHeartbeats 4000000 in
theorem iq_Mod_starts_0 (xs : List Int32) (c : Nat → List Value → ia_H → Option ia_R) (n : Nat) (v0 : Nat) (v1 : Int32) (h : ia_H) :
  ia_qr xs c im_Mod_starts (n + 1) 0 [.ref v0, .int v1, .float 0, .float 0, .float 0] [] h = ((ia_getR h v0 10 36).bind fun r1 => ((ia_ast h r1 0 v1 0).bind fun h2 => ((ia_getR h2 v0 10 37).bind fun r3 => ((ia_ast h2 r3 0 v1 0).bind fun h4 => ((ia_getR h4 v0 10 38).bind fun r5 => ((ia_getR h4 v0 10 3).bind fun r6 => ((ia_ald h4 r6 0 1).bind fun x7 => ((ia_ast h4 r5 0 v1 x7).bind fun h8 => (ia_qr xs c im_Mod_starts n 20 [.ref v0, .int v1, .int 0, .float 0, .float 0] [] h8))))))))) := rfl
set_option maxRecDepth 100000 in
set_option maxHeartbeats 4000000 in
theorem iq_Mod_starts_20 (xs : List Int32) (c : Nat → List Value → ia_H → Option ia_R) (n : Nat) (v0 : Nat) (v1 : Int32) (v2 : Int32) (h : ia_H) :
  ia_qr xs c im_Mod_starts (n + 1) 20 [.ref v0, .int v1, .int v2, .float 0, .float 0] [] h = (if (v2 : Int32) < (6 : Int32) then ((ia_getR h v0 10 39).bind fun r1 => ((ia_getR h v0 10 3).bind fun r2 => ((ia_ald h r2 0 0).bind fun x3 => (if (v2 : Int32) < (x3 : Int32) then ((ia_getR h v0 10 6).bind fun r4 => ((ia_ald h r4 0 v2).bind fun x5 => (ia_qr xs c im_Mod_starts n 42 [.ref v0, .int v1, .int v2, .float 0, .float 0] [.int x5, .int ((6 * v1) + v2), .ref r1] h))) else (ia_qr xs c im_Mod_starts n 42 [.ref v0, .int v1, .int v2, .float 0, .float 0] [.int 0, .int ((6 * v1) + v2), .ref r1] h))))) else (ia_qr xs c im_Mod_starts n 56 [.ref v0, .int v1, .int 0, .float 0, .float 0] [] h)) := rfl
set_option maxRecDepth 100000 in
set_option maxHeartbeats 4000000 in
theorem iq_Mod_starts_42 (xs : List Int32) (c : Nat → List Value → ia_H → Option ia_R) (n : Nat) (v0 : Nat) (v1 : Int32) (v2 : Int32) (s0 : Int32) (s1 : Int32) (s2 : Nat) (h : ia_H) :
  ia_qr xs c im_Mod_starts (n + 1) 42 [.ref v0, .int v1, .int v2, .float 0, .float 0] [.int s0, .int s1, .ref s2] h = ((ia_ast h s2 0 s1 s0).bind fun h1 => ((ia_getR h1 v0 10 40).bind fun r2 => ((ia_ast h1 r2 0 ((6 * v1) + v2) 0).bind fun h3 => (ia_qr xs c im_Mod_starts n 20 [.ref v0, .int v1, .int (v2 + 1), .float 0, .float 0] [] h3)))) := rfl
set_option maxRecDepth 100000 in
set_option maxHeartbeats 4000000 in
theorem iq_Mod_starts_56 (xs : List Int32) (c : Nat → List Value → ia_H → Option ia_R) (n : Nat) (v0 : Nat) (v1 : Int32) (v2 : Int32) (h : ia_H) :
  ia_qr xs c im_Mod_starts (n + 1) 56 [.ref v0, .int v1, .int v2, .float 0, .float 0] [] h = (if (v2 : Int32) < (8 : Int32) then ((ia_getR h v0 10 3).bind fun r1 => ((ia_ald h r1 0 1).bind fun x2 => (if (v2 : Int32) < (x2 : Int32) then (ia_qr xs c im_Mod_starts n 74 [.ref v0, .int v1, .int v2, .int ((8 * v1) + v2), .float 0] [.int 1] h) else (ia_qr xs c im_Mod_starts n 74 [.ref v0, .int v1, .int v2, .int ((8 * v1) + v2), .float 0] [.int 0] h)))) else (ia_qr xs c im_Mod_starts n 120 [.ref v0, .int v1, .int 0, .float 0, .float 0] [] h)) := rfl
set_option maxRecDepth 100000 in
set_option maxHeartbeats 4000000 in
theorem iq_Mod_starts_74 (xs : List Int32) (c : Nat → List Value → ia_H → Option ia_R) (n : Nat) (v0 : Nat) (v1 : Int32) (v2 : Int32) (v3 : Int32) (s0 : Int32) (h : ia_H) :
  ia_qr xs c im_Mod_starts (n + 1) 74 [.ref v0, .int v1, .int v2, .int v3, .float 0] [.int s0] h = ((ia_getR h v0 10 41).bind fun r1 => (if (s0 : Int32) = (0 : Int32) then (ia_qr xs c im_Mod_starts n 86 [.ref v0, .int v1, .int v2, .int v3, .int s0] [.int 0, .int v3, .ref r1] h) else ((ia_getR h v0 10 7).bind fun r2 => ((ia_ald h r2 0 v2).bind fun x3 => (ia_qr xs c im_Mod_starts n 86 [.ref v0, .int v1, .int v2, .int v3, .int s0] [.int x3, .int v3, .ref r1] h))))) := rfl
set_option maxRecDepth 100000 in
set_option maxHeartbeats 4000000 in
theorem iq_Mod_starts_86 (xs : List Int32) (c : Nat → List Value → ia_H → Option ia_R) (n : Nat) (v0 : Nat) (v1 : Int32) (v2 : Int32) (v3 : Int32) (v4 : Int32) (s0 : Int32) (s1 : Int32) (s2 : Nat) (h : ia_H) :
  ia_qr xs c im_Mod_starts (n + 1) 86 [.ref v0, .int v1, .int v2, .int v3, .int v4] [.int s0, .int s1, .ref s2] h = ((ia_ast h s2 0 s1 s0).bind fun h1 => ((ia_getR h1 v0 10 42).bind fun r2 => (if (v4 : Int32) = (0 : Int32) then (ia_qr xs c im_Mod_starts n 98 [.ref v0, .int v1, .int v2, .int v3, .int v4] [.int 0, .int v3, .ref r2] h1) else ((ia_getR h1 v0 10 8).bind fun r3 => ((ia_ald h1 r3 0 v2).bind fun x4 => (ia_qr xs c im_Mod_starts n 98 [.ref v0, .int v1, .int v2, .int v3, .int v4] [.int x4, .int v3, .ref r2] h1)))))) := rfl
set_option maxRecDepth 100000 in
set_option maxHeartbeats 4000000 in
theorem iq_Mod_starts_98 (xs : List Int32) (c : Nat → List Value → ia_H → Option ia_R) (n : Nat) (v0 : Nat) (v1 : Int32) (v2 : Int32) (v3 : Int32) (v4 : Int32) (s0 : Int32) (s1 : Int32) (s2 : Nat) (h : ia_H) :
  ia_qr xs c im_Mod_starts (n + 1) 98 [.ref v0, .int v1, .int v2, .int v3, .int v4] [.int s0, .int s1, .ref s2] h = ((ia_ast h s2 0 s1 s0).bind fun h1 => ((ia_getR h1 v0 10 43).bind fun r2 => (if (v4 : Int32) = (0 : Int32) then (ia_qr xs c im_Mod_starts n 110 [.ref v0, .int v1, .int v2, .int v3, .float 0] [.int 0, .int v3, .ref r2] h1) else ((ia_getR h1 v0 10 9).bind fun r3 => ((ia_ald h1 r3 0 v2).bind fun x4 => (ia_qr xs c im_Mod_starts n 110 [.ref v0, .int v1, .int v2, .int v3, .float 0] [.int x4, .int v3, .ref r2] h1)))))) := rfl
set_option maxRecDepth 100000 in
set_option maxHeartbeats 4000000 in
theorem iq_Mod_starts_110 (xs : List Int32) (c : Nat → List Value → ia_H → Option ia_R) (n : Nat) (v0 : Nat) (v1 : Int32) (v2 : Int32) (v3 : Int32) (s0 : Int32) (s1 : Int32) (s2 : Nat) (h : ia_H) :
  ia_qr xs c im_Mod_starts (n + 1) 110 [.ref v0, .int v1, .int v2, .int v3, .float 0] [.int s0, .int s1, .ref s2] h = ((ia_ast h s2 0 s1 s0).bind fun h1 => ((ia_getR h1 v0 10 44).bind fun r2 => ((ia_ast h1 r2 0 v3 0).bind fun h3 => (ia_qr xs c im_Mod_starts n 56 [.ref v0, .int v1, .int (v2 + 1), .float 0, .float 0] [] h3)))) := rfl
set_option maxRecDepth 100000 in
set_option maxHeartbeats 4000000 in
theorem iq_Mod_starts_120 (xs : List Int32) (c : Nat → List Value → ia_H → Option ia_R) (n : Nat) (v0 : Nat) (v1 : Int32) (v2 : Int32) (h : ia_H) :
  ia_qr xs c im_Mod_starts (n + 1) 120 [.ref v0, .int v1, .int v2, .float 0, .float 0] [] h = (if (v2 : Int32) < (10 : Int32) then ((ia_getR h v0 10 3).bind fun r1 => ((ia_ald h r1 0 3).bind fun x2 => (if (v2 : Int32) < (x2 : Int32) then (ia_qr xs c im_Mod_starts n 138 [.ref v0, .int v1, .int v2, .int ((10 * v1) + v2), .float 0] [.int 1] h) else (ia_qr xs c im_Mod_starts n 138 [.ref v0, .int v1, .int v2, .int ((10 * v1) + v2), .float 0] [.int 0] h)))) else (some (none, h))) := rfl
set_option maxRecDepth 100000 in
set_option maxHeartbeats 4000000 in
theorem iq_Mod_starts_138 (xs : List Int32) (c : Nat → List Value → ia_H → Option ia_R) (n : Nat) (v0 : Nat) (v1 : Int32) (v2 : Int32) (v3 : Int32) (s0 : Int32) (h : ia_H) :
  ia_qr xs c im_Mod_starts (n + 1) 138 [.ref v0, .int v1, .int v2, .int v3, .float 0] [.int s0] h = ((ia_getR h v0 10 45).bind fun r1 => (if (s0 : Int32) = (0 : Int32) then (ia_qr xs c im_Mod_starts n 150 [.ref v0, .int v1, .int v2, .int v3, .int s0] [.int 0, .int v3, .ref r1] h) else ((ia_getR h v0 10 14).bind fun r2 => ((ia_ald h r2 0 v2).bind fun x3 => (ia_qr xs c im_Mod_starts n 150 [.ref v0, .int v1, .int v2, .int v3, .int s0] [.int x3, .int v3, .ref r1] h))))) := rfl
set_option maxRecDepth 100000 in
set_option maxHeartbeats 4000000 in
theorem iq_Mod_starts_150 (xs : List Int32) (c : Nat → List Value → ia_H → Option ia_R) (n : Nat) (v0 : Nat) (v1 : Int32) (v2 : Int32) (v3 : Int32) (v4 : Int32) (s0 : Int32) (s1 : Int32) (s2 : Nat) (h : ia_H) :
  ia_qr xs c im_Mod_starts (n + 1) 150 [.ref v0, .int v1, .int v2, .int v3, .int v4] [.int s0, .int s1, .ref s2] h = ((ia_ast h s2 0 s1 s0).bind fun h1 => ((ia_getR h1 v0 10 46).bind fun r2 => (if (v4 : Int32) = (0 : Int32) then (ia_qr xs c im_Mod_starts n 162 [.ref v0, .int v1, .int v2, .int v3, .float 0] [.int 0, .int v3, .ref r2] h1) else ((ia_getR h1 v0 10 15).bind fun r3 => ((ia_ald h1 r3 0 v2).bind fun x4 => (ia_qr xs c im_Mod_starts n 162 [.ref v0, .int v1, .int v2, .int v3, .float 0] [.int x4, .int v3, .ref r2] h1)))))) := rfl
set_option maxRecDepth 100000 in
set_option maxHeartbeats 4000000 in
theorem iq_Mod_starts_162 (xs : List Int32) (c : Nat → List Value → ia_H → Option ia_R) (n : Nat) (v0 : Nat) (v1 : Int32) (v2 : Int32) (v3 : Int32) (s0 : Int32) (s1 : Int32) (s2 : Nat) (h : ia_H) :
  ia_qr xs c im_Mod_starts (n + 1) 162 [.ref v0, .int v1, .int v2, .int v3, .float 0] [.int s0, .int s1, .ref s2] h = ((ia_ast h s2 0 s1 s0).bind fun h1 => ((ia_getR h1 v0 10 47).bind fun r2 => ((ia_ast h1 r2 0 v3 0).bind fun h3 => ((ia_getR h3 v0 10 48).bind fun r4 => ((ia_ast h3 r4 0 v3 0).bind fun h5 => (ia_qr xs c im_Mod_starts n 120 [.ref v0, .int v1, .int (v2 + 1), .float 0, .float 0] [] h5)))))) := rfl
theorem iu_Mod_starts (xs : List Int32) (d : Nat) (v0 : Nat) (v1 : Int32) (h : ia_H) :
  ia_cal xs (d + 1) im_Mod_starts [.ref v0, .int v1] h = ia_qr xs (ia_cal xs d) im_Mod_starts 1000000 0 [.ref v0, .int v1, .float 0, .float 0, .float 0] [] h := ia_call_of (j := im_Mod_starts) rfl
theorem iq_Mod_begins_0 (xs : List Int32) (c : Nat → List Value → ia_H → Option ia_R) (n : Nat) (v0 : Nat) (h : ia_H) :
  ia_qr xs c im_Mod_begins (n + 1) 0 [.ref v0] [] h = (if ia_cls h v0 = 10 then (ia_cV (c im_Mod_starts [.ref v0, .int 0] h) fun h1 => (some (none, h1))) else none) := rfl
theorem iu_Mod_begins (xs : List Int32) (d : Nat) (v0 : Nat) (h : ia_H) :
  ia_cal xs (d + 1) im_Mod_begins [.ref v0] h = ia_qr xs (ia_cal xs d) im_Mod_begins 1000000 0 [.ref v0] [] h := ia_call_of (j := im_Mod_begins) rfl
set_option maxRecDepth 100000 in
set_option maxHeartbeats 4000000 in
theorem iq_Mod_copies_0 (xs : List Int32) (c : Nat → List Value → ia_H → Option ia_R) (n : Nat) (v0 : Nat) (v1 : Int32) (v2 : Int32) (h : ia_H) :
  ia_qr xs c im_Mod_copies (n + 1) 0 [.ref v0, .int v1, .int v2, .float 0, .float 0, .float 0] [] h = ((ia_getR h v0 10 36).bind fun r1 => ((ia_getR h v0 10 36).bind fun r2 => ((ia_ald h r2 0 v2).bind fun x3 => ((ia_ast h r1 0 v1 x3).bind fun h4 => ((ia_getR h4 v0 10 37).bind fun r5 => ((ia_getR h4 v0 10 37).bind fun r6 => ((ia_ald h4 r6 0 v2).bind fun x7 => ((ia_ast h4 r5 0 v1 x7).bind fun h8 => ((ia_getR h8 v0 10 38).bind fun r9 => ((ia_getR h8 v0 10 38).bind fun r10 => ((ia_ald h8 r10 0 v2).bind fun x11 => ((ia_ast h8 r9 0 v1 x11).bind fun h12 => (ia_qr xs c im_Mod_copies n 26 [.ref v0, .int v1, .int v2, .int 0, .float 0, .float 0] [] h12))))))))))))) := rfl
set_option maxRecDepth 100000 in
set_option maxHeartbeats 4000000 in
theorem iq_Mod_copies_26 (xs : List Int32) (c : Nat → List Value → ia_H → Option ia_R) (n : Nat) (v0 : Nat) (v1 : Int32) (v2 : Int32) (v3 : Int32) (h : ia_H) :
  ia_qr xs c im_Mod_copies (n + 1) 26 [.ref v0, .int v1, .int v2, .int v3, .float 0, .float 0] [] h = (if (v3 : Int32) < (6 : Int32) then ((ia_getR h v0 10 39).bind fun r1 => ((ia_getR h v0 10 39).bind fun r2 => ((ia_ald h r2 0 ((6 * v2) + v3)).bind fun x3 => ((ia_ast h r1 0 ((6 * v1) + v3) x3).bind fun h4 => ((ia_getR h4 v0 10 40).bind fun r5 => ((ia_getR h4 v0 10 40).bind fun r6 => ((ia_ald h4 r6 0 ((6 * v2) + v3)).bind fun x7 => ((ia_ast h4 r5 0 ((6 * v1) + v3) x7).bind fun h8 => (ia_qr xs c im_Mod_copies n 26 [.ref v0, .int v1, .int v2, .int (v3 + 1), .float 0, .float 0] [] h8))))))))) else (ia_qr xs c im_Mod_copies n 65 [.ref v0, .int v1, .int v2, .int 0, .float 0, .float 0] [] h)) := rfl
set_option maxRecDepth 100000 in
set_option maxHeartbeats 4000000 in
theorem iq_Mod_copies_65 (xs : List Int32) (c : Nat → List Value → ia_H → Option ia_R) (n : Nat) (v0 : Nat) (v1 : Int32) (v2 : Int32) (v3 : Int32) (h : ia_H) :
  ia_qr xs c im_Mod_copies (n + 1) 65 [.ref v0, .int v1, .int v2, .int v3, .float 0, .float 0] [] h = (if (v3 : Int32) < (8 : Int32) then ((ia_getR h v0 10 41).bind fun r1 => ((ia_getR h v0 10 41).bind fun r2 => ((ia_ald h r2 0 ((8 * v2) + v3)).bind fun x3 => ((ia_ast h r1 0 ((8 * v1) + v3) x3).bind fun h4 => ((ia_getR h4 v0 10 42).bind fun r5 => ((ia_getR h4 v0 10 42).bind fun r6 => ((ia_ald h4 r6 0 ((8 * v2) + v3)).bind fun x7 => ((ia_ast h4 r5 0 ((8 * v1) + v3) x7).bind fun h8 => ((ia_getR h8 v0 10 43).bind fun r9 => ((ia_getR h8 v0 10 43).bind fun r10 => ((ia_ald h8 r10 0 ((8 * v2) + v3)).bind fun x11 => ((ia_ast h8 r9 0 ((8 * v1) + v3) x11).bind fun h12 => ((ia_getR h12 v0 10 44).bind fun r13 => ((ia_getR h12 v0 10 44).bind fun r14 => ((ia_ald h12 r14 0 ((8 * v2) + v3)).bind fun x15 => ((ia_ast h12 r13 0 ((8 * v1) + v3) x15).bind fun h16 => (ia_qr xs c im_Mod_copies n 65 [.ref v0, .int v1, .int v2, .int (v3 + 1), .float 0, .float 0] [] h16))))))))))))))))) else (ia_qr xs c im_Mod_copies n 116 [.ref v0, .int v1, .int v2, .int 0, .float 0, .float 0] [] h)) := rfl
set_option maxRecDepth 100000 in
set_option maxHeartbeats 4000000 in
theorem iq_Mod_copies_116 (xs : List Int32) (c : Nat → List Value → ia_H → Option ia_R) (n : Nat) (v0 : Nat) (v1 : Int32) (v2 : Int32) (v3 : Int32) (h : ia_H) :
  ia_qr xs c im_Mod_copies (n + 1) 116 [.ref v0, .int v1, .int v2, .int v3, .float 0, .float 0] [] h = (if (v3 : Int32) < (10 : Int32) then ((ia_getR h v0 10 45).bind fun r1 => ((ia_getR h v0 10 45).bind fun r2 => ((ia_ald h r2 0 ((10 * v2) + v3)).bind fun x3 => ((ia_ast h r1 0 ((10 * v1) + v3) x3).bind fun h4 => ((ia_getR h4 v0 10 46).bind fun r5 => ((ia_getR h4 v0 10 46).bind fun r6 => ((ia_ald h4 r6 0 ((10 * v2) + v3)).bind fun x7 => ((ia_ast h4 r5 0 ((10 * v1) + v3) x7).bind fun h8 => ((ia_getR h8 v0 10 47).bind fun r9 => ((ia_getR h8 v0 10 47).bind fun r10 => ((ia_ald h8 r10 0 ((10 * v2) + v3)).bind fun x11 => ((ia_ast h8 r9 0 ((10 * v1) + v3) x11).bind fun h12 => ((ia_getR h12 v0 10 48).bind fun r13 => ((ia_getR h12 v0 10 48).bind fun r14 => ((ia_ald h12 r14 0 ((10 * v2) + v3)).bind fun x15 => ((ia_ast h12 r13 0 ((10 * v1) + v3) x15).bind fun h16 => (ia_qr xs c im_Mod_copies n 116 [.ref v0, .int v1, .int v2, .int (v3 + 1), .float 0, .float 0] [] h16))))))))))))))))) else (some (none, h))) := rfl
theorem iu_Mod_copies (xs : List Int32) (d : Nat) (v0 : Nat) (v1 : Int32) (v2 : Int32) (h : ia_H) :
  ia_cal xs (d + 1) im_Mod_copies [.ref v0, .int v1, .int v2] h = ia_qr xs (ia_cal xs d) im_Mod_copies 1000000 0 [.ref v0, .int v1, .int v2, .float 0, .float 0, .float 0] [] h := ia_call_of (j := im_Mod_copies) rfl
theorem iq_Mod_isMan_0 (xs : List Int32) (c : Nat → List Value → ia_H → Option ia_R) (n : Nat) (v0 : Nat) (v1 : Int32) (h : ia_H) :
  ia_qr xs c im_Mod_isMan (n + 1) 0 [.ref v0, .int v1] [] h = (if (v1 : Int32) < (0 : Int32) then (if 0 = (0 : Int32) ∨ 0 = (1 : Int32) then some (some (.int 0), h) else none) else ((ia_getR h v0 10 3).bind fun r1 => ((ia_ald h r1 0 0).bind fun x2 => (if (v1 : Int32) < (x2 : Int32) then (if 1 = (0 : Int32) ∨ 1 = (1 : Int32) then some (some (.int 1), h) else none) else (if 0 = (0 : Int32) ∨ 0 = (1 : Int32) then some (some (.int 0), h) else none))))) := rfl
theorem iu_Mod_isMan (xs : List Int32) (d : Nat) (v0 : Nat) (v1 : Int32) (h : ia_H) :
  ia_cal xs (d + 1) im_Mod_isMan [.ref v0, .int v1] h = ia_qr xs (ia_cal xs d) im_Mod_isMan 1000000 0 [.ref v0, .int v1] [] h := ia_call_of (j := im_Mod_isMan) rfl
theorem iq_Mod_isCall_0 (xs : List Int32) (c : Nat → List Value → ia_H → Option ia_R) (n : Nat) (v0 : Nat) (v1 : Int32) (h : ia_H) :
  ia_qr xs c im_Mod_isCall (n + 1) 0 [.ref v0, .int v1] [] h = (if (v1 : Int32) < (0 : Int32) then (if 0 = (0 : Int32) ∨ 0 = (1 : Int32) then some (some (.int 0), h) else none) else ((ia_getR h v0 10 3).bind fun r1 => ((ia_ald h r1 0 3).bind fun x2 => (if (v1 : Int32) < (x2 : Int32) then (if 1 = (0 : Int32) ∨ 1 = (1 : Int32) then some (some (.int 1), h) else none) else (if 0 = (0 : Int32) ∨ 0 = (1 : Int32) then some (some (.int 0), h) else none))))) := rfl
theorem iu_Mod_isCall (xs : List Int32) (d : Nat) (v0 : Nat) (v1 : Int32) (h : ia_H) :
  ia_cal xs (d + 1) im_Mod_isCall [.ref v0, .int v1] h = ia_qr xs (ia_cal xs d) im_Mod_isCall 1000000 0 [.ref v0, .int v1] [] h := ia_call_of (j := im_Mod_isCall) rfl
theorem iq_Mod_isTone_0 (xs : List Int32) (c : Nat → List Value → ia_H → Option ia_R) (n : Nat) (v0 : Nat) (v1 : Int32) (h : ia_H) :
  ia_qr xs c im_Mod_isTone (n + 1) 0 [.ref v0, .int v1] [] h = (if (v1 : Int32) < (0 : Int32) then (if 0 = (0 : Int32) ∨ 0 = (1 : Int32) then some (some (.int 0), h) else none) else ((ia_getR h v0 10 38).bind fun r1 => ((ia_ald h r1 0 0).bind fun x2 => (if (v1 : Int32) < (x2 : Int32) then (if 1 = (0 : Int32) ∨ 1 = (1 : Int32) then some (some (.int 1), h) else none) else (if 0 = (0 : Int32) ∨ 0 = (1 : Int32) then some (some (.int 0), h) else none))))) := rfl
theorem iu_Mod_isTone (xs : List Int32) (d : Nat) (v0 : Nat) (v1 : Int32) (h : ia_H) :
  ia_cal xs (d + 1) im_Mod_isTone [.ref v0, .int v1] h = ia_qr xs (ia_cal xs d) im_Mod_isTone 1000000 0 [.ref v0, .int v1] [] h := ia_call_of (j := im_Mod_isTone) rfl
theorem iq_Mod_linesNow_0 (xs : List Int32) (c : Nat → List Value → ia_H → Option ia_R) (n : Nat) (v0 : Nat) (h : ia_H) :
  ia_qr xs c im_Mod_linesNow (n + 1) 0 [.ref v0] [] h = ((ia_getI h v0 10 53).bind fun x1 => (if (x1 : Int32) = ((-1) : Int32) then ((ia_getI h v0 10 51).bind fun x2 => (if (x2 : Int32) = (3 : Int32) then (some (some (.int 6), h)) else ((ia_getR h v0 10 3).bind fun r3 => ((ia_ald h r3 0 4).bind fun x4 => (some (some (.int x4), h)))))) else ((ia_getI h v0 10 53).bind fun x5 => (some (some (.int x5), h))))) := rfl
theorem iu_Mod_linesNow (xs : List Int32) (d : Nat) (v0 : Nat) (h : ia_H) :
  ia_cal xs (d + 1) im_Mod_linesNow [.ref v0] h = ia_qr xs (ia_cal xs d) im_Mod_linesNow 1000000 0 [.ref v0] [] h := ia_call_of (j := im_Mod_linesNow) rfl
theorem iq_Mod_triesNow_0 (xs : List Int32) (c : Nat → List Value → ia_H → Option ia_R) (n : Nat) (v0 : Nat) (h : ia_H) :
  ia_qr xs c im_Mod_triesNow (n + 1) 0 [.ref v0] [] h = ((ia_getI h v0 10 51).bind fun x1 => (if (x1 : Int32) = (4 : Int32) then (some (some (.int 9), h)) else ((ia_getR h v0 10 3).bind fun r2 => ((ia_ald h r2 0 5).bind fun x3 => (some (some (.int x3), h)))))) := rfl
theorem iu_Mod_triesNow (xs : List Int32) (d : Nat) (v0 : Nat) (h : ia_H) :
  ia_cal xs (d + 1) im_Mod_triesNow [.ref v0] h = ia_qr xs (ia_cal xs d) im_Mod_triesNow 1000000 0 [.ref v0] [] h := ia_call_of (j := im_Mod_triesNow) rfl
set_option maxRecDepth 100000 in
set_option maxHeartbeats 4000000 in
theorem iq_Mod_priceAt_0 (xs : List Int32) (c : Nat → List Value → ia_H → Option ia_R) (n : Nat) (v0 : Nat) (v1 : Int32) (h : ia_H) :
  ia_qr xs c im_Mod_priceAt (n + 1) 0 [.ref v0, .int v1, .float 0, .float 0] [] h = (ia_qr xs c im_Mod_priceAt n 4 [.ref v0, .int v1, .int (-1), .int 0] [] h) := rfl
set_option maxRecDepth 100000 in
set_option maxHeartbeats 4000000 in
theorem iq_Mod_priceAt_4 (xs : List Int32) (c : Nat → List Value → ia_H → Option ia_R) (n : Nat) (v0 : Nat) (v1 : Int32) (v2 : Int32) (v3 : Int32) (h : ia_H) :
  ia_qr xs c im_Mod_priceAt (n + 1) 4 [.ref v0, .int v1, .int v2, .int v3] [] h = ((ia_getR h v0 10 3).bind fun r1 => ((ia_ald h r1 0 2).bind fun x2 => (if (v3 : Int32) < (x2 : Int32) then ((ia_getR h v0 10 10).bind fun r5 => ((ia_ald h r5 0 v3).bind fun x6 => (if (v1 : Int32) < (x6 : Int32) then (ia_qr xs c im_Mod_priceAt n 4 [.ref v0, .int v1, .int v2, .int (v3 + 1)] [] h) else (if (v2 : Int32) = ((-1) : Int32) then (ia_qr xs c im_Mod_priceAt n 4 [.ref v0, .int v1, .int v3, .int (v3 + 1)] [] h) else ((ia_getR h v0 10 10).bind fun r7 => ((ia_ald h r7 0 v3).bind fun x8 => ((ia_getR h v0 10 10).bind fun r9 => ((ia_ald h r9 0 v2).bind fun x10 => (if (x8 : Int32) < (x10 : Int32) then (ia_qr xs c im_Mod_priceAt n 4 [.ref v0, .int v1, .int v2, .int (v3 + 1)] [] h) else (ia_qr xs c im_Mod_priceAt n 4 [.ref v0, .int v1, .int v3, .int (v3 + 1)] [] h)))))))))) else (if (v2 : Int32) = ((-1) : Int32) then (some (some (.int 5), h)) else ((ia_getR h v0 10 11).bind fun r3 => ((ia_ald h r3 0 v2).bind fun x4 => (some (some (.int x4), h)))))))) := rfl
theorem iu_Mod_priceAt (xs : List Int32) (d : Nat) (v0 : Nat) (v1 : Int32) (h : ia_H) :
  ia_cal xs (d + 1) im_Mod_priceAt [.ref v0, .int v1] h = ia_qr xs (ia_cal xs d) im_Mod_priceAt 1000000 0 [.ref v0, .int v1, .float 0, .float 0] [] h := ia_call_of (j := im_Mod_priceAt) rfl
