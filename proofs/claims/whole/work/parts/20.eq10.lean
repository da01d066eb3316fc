/-! Unfolding equations (written by program, checked by rfl). -/
theorem iq_Mod_thrown_0 (xs : List Int32) (c : Nat → List Value → ia_H → Option ia_R) (n : Nat) (v0 : Nat) (h : ia_H) :
  ia_qr xs c im_Mod_thrown (n + 1) 0 [.ref v0] [] h = ((ia_getI h v0 10 0).bind fun x1 => (some (some (.int x1), h))) := rfl
theorem iu_Mod_thrown (xs : List Int32) (d : Nat) (v0 : Nat) (h : ia_H) :
  ia_cal xs (d + 1) im_Mod_thrown [.ref v0] h = ia_qr xs (ia_cal xs d) im_Mod_thrown 1000000 0 [.ref v0] [] h := ia_call_of (j := im_Mod_thrown) rfl
set_option maxRecDepth 100000 in
set_option maxHeartbeats 4000000 in
theorem iq_Mod_feed_0 (xs : List Int32) (c : Nat → List Value → ia_H → Option ia_R) (n : Nat) (v0 : Nat) (v1 : Int32) (v2 : Int32) (v3 : Int32) (v4 : Int32) (v5 : Int32) (h : ia_H) :
  ia_qr xs c im_Mod_feed (n + 1) 0 [.ref v0, .int v1, .int v2, .int v3, .int v4, .int v5, .float 0, .float 0] [] h = ((ia_putf h v0 10 0 (.int (0 : Int32))).bind fun h1 => ((ia_getI h1 v0 10 2).bind fun x2 => (if ((680 : Int32) : Int32) < (x2 : Int32) then (some (some (.int (-1 : Int32)), h1)) else (ia_qr xs c im_Mod_feed n 11 [.ref v0, .int v1, .int v2, .int v3, .int v4, .int v5, .int (0 : Int32), .float 0] [] h1)))) := rfl
set_option maxRecDepth 100000 in
set_option maxHeartbeats 4000000 in
theorem iq_Mod_feed_11 (xs : List Int32) (c : Nat → List Value → ia_H → Option ia_R) (n : Nat) (v0 : Nat) (v1 : Int32) (v2 : Int32) (v3 : Int32) (v4 : Int32) (v5 : Int32) (v6 : Int32) (h : ia_H) :
  ia_qr xs c im_Mod_feed (n + 1) 11 [.ref v0, .int v1, .int v2, .int v3, .int v4, .int v5, .int v6, .float 0] [] h = (if (v6 : Int32) < ((20 : Int32) : Int32) then (if (v6 : Int32) < ((4 : Int32) : Int32) then (ia_qr xs c im_Mod_feed n 35 [.ref v0, .int v1, .int v2, .int v3, .int v4, .int v5, .int v6, .float 0] [.int v1] h) else (if (v6 : Int32) < ((8 : Int32) : Int32) then (ia_qr xs c im_Mod_feed n 35 [.ref v0, .int v1, .int v2, .int v3, .int v4, .int v5, .int v6, .float 0] [.int v2] h) else (if (v6 : Int32) < ((12 : Int32) : Int32) then (ia_qr xs c im_Mod_feed n 35 [.ref v0, .int v1, .int v2, .int v3, .int v4, .int v5, .int v6, .float 0] [.int v3] h) else (if (v6 : Int32) < ((16 : Int32) : Int32) then (ia_qr xs c im_Mod_feed n 35 [.ref v0, .int v1, .int v2, .int v3, .int v4, .int v5, .int v6, .float 0] [.int v4] h) else (ia_qr xs c im_Mod_feed n 35 [.ref v0, .int v1, .int v2, .int v3, .int v4, .int v5, .int v6, .float 0] [.int v5] h))))) else ((ia_getI h v0 10 2).bind fun x1 => ((ia_putf h v0 10 2 (.int (x1 + (20 : Int32)))).bind fun h2 => ((ia_getI h2 v0 10 2).bind fun x3 => (some (some (.int x3), h2)))))) := rfl
set_option maxRecDepth 100000 in
set_option maxHeartbeats 4000000 in
theorem iq_Mod_feed_35 (xs : List Int32) (c : Nat → List Value → ia_H → Option ia_R) (n : Nat) (v0 : Nat) (v1 : Int32) (v2 : Int32) (v3 : Int32) (v4 : Int32) (v5 : Int32) (v6 : Int32) (s0 : Int32) (h : ia_H) :
  ia_qr xs c im_Mod_feed (n + 1) 35 [.ref v0, .int v1, .int v2, .int v3, .int v4, .int v5, .int v6, .float 0] [.int s0] h = ((ia_getR h v0 10 1).bind fun r1 => ((ia_getI h v0 10 2).bind fun x2 => (if (4 : Int32) = (0 : Int32) then none else ((ia_ast h r1 0 (x2 + v6) ((s0 >>> (((24 : Int32) - ((8 : Int32) * (v6 - v6 / (4 : Int32) * (4 : Int32)))) &&& 31)) &&& (255 : Int32))).bind fun h3 => (ia_qr xs c im_Mod_feed n 11 [.ref v0, .int v1, .int v2, .int v3, .int v4, .int v5, .int (v6 + (1 : Int32)), .float 0] [] h3))))) := rfl
theorem iu_Mod_feed (xs : List Int32) (d : Nat) (v0 : Nat) (v1 : Int32) (v2 : Int32) (v3 : Int32) (v4 : Int32) (v5 : Int32) (h : ia_H) :
  ia_cal xs (d + 1) im_Mod_feed [.ref v0, .int v1, .int v2, .int v3, .int v4, .int v5] h = ia_qr xs (ia_cal xs d) im_Mod_feed 1000000 0 [.ref v0, .int v1, .int v2, .int v3, .int v4, .int v5, .float 0, .float 0] [] h := ia_call_of (j := im_Mod_feed) rfl
theorem iq_Mod_here_0 (xs : List Int32) (c : Nat → List Value → ia_H → Option ia_R) (n : Nat) (v0 : Nat) (h : ia_H) :
  ia_qr xs c im_Mod_here (n + 1) 0 [.ref v0] [] h = ((ia_getI h v0 10 23).bind fun x1 => ((ia_getI h v0 10 22).bind fun x2 => (if (x1 : Int32) < (x2 : Int32) then ((ia_getR h v0 10 1).bind fun r3 => ((ia_getI h v0 10 23).bind fun x4 => ((ia_ald h r3 0 x4).bind fun x5 => (some (some (.int x5), h))))) else (some (some (.int (-1 : Int32)), h))))) := rfl
theorem iu_Mod_here (xs : List Int32) (d : Nat) (v0 : Nat) (h : ia_H) :
  ia_cal xs (d + 1) im_Mod_here [.ref v0] h = ia_qr xs (ia_cal xs d) im_Mod_here 1000000 0 [.ref v0] [] h := ia_call_of (j := im_Mod_here) rfl
theorem iq_Mod_isSmall_0 (xs : List Int32) (c : Nat → List Value → ia_H → Option ia_R) (n : Nat) (v0 : Int32) (h : ia_H) :
  ia_qr xs c im_Mod_isSmall (n + 1) 0 [.int v0] [] h = (if (v0 : Int32) < ((97 : Int32) : Int32) then (if (0 : Int32) = (0 : Int32) ∨ (0 : Int32) = (1 : Int32) then some (some (.int (0 : Int32)), h) else none) else (if ((122 : Int32) : Int32) < (v0 : Int32) then (if (0 : Int32) = (0 : Int32) ∨ (0 : Int32) = (1 : Int32) then some (some (.int (0 : Int32)), h) else none) else (if (1 : Int32) = (0 : Int32) ∨ (1 : Int32) = (1 : Int32) then some (some (.int (1 : Int32)), h) else none))) := rfl
theorem iu_Mod_isSmall (xs : List Int32) (d : Nat) (v0 : Int32) (h : ia_H) :
  ia_cal xs (d + 1) im_Mod_isSmall [.int v0] h = ia_qr xs (ia_cal xs d) im_Mod_isSmall 1000000 0 [.int v0] [] h := ia_call_of (j := im_Mod_isSmall) rfl
theorem iq_Mod_isDigit_0 (xs : List Int32) (c : Nat → List Value → ia_H → Option ia_R) (n : Nat) (v0 : Int32) (h : ia_H) :
  ia_qr xs c im_Mod_isDigit (n + 1) 0 [.int v0] [] h = (if (v0 : Int32) < ((48 : Int32) : Int32) then (if (0 : Int32) = (0 : Int32) ∨ (0 : Int32) = (1 : Int32) then some (some (.int (0 : Int32)), h) else none) else (if ((57 : Int32) : Int32) < (v0 : Int32) then (if (0 : Int32) = (0 : Int32) ∨ (0 : Int32) = (1 : Int32) then some (some (.int (0 : Int32)), h) else none) else (if (1 : Int32) = (0 : Int32) ∨ (1 : Int32) = (1 : Int32) then some (some (.int (1 : Int32)), h) else none))) := rfl
theorem iu_Mod_isDigit (xs : List Int32) (d : Nat) (v0 : Int32) (h : ia_H) :
  ia_cal xs (d + 1) im_Mod_isDigit [.int v0] h = ia_qr xs (ia_cal xs d) im_Mod_isDigit 1000000 0 [.int v0] [] h := ia_call_of (j := im_Mod_isDigit) rfl
set_option maxRecDepth 100000 in
set_option maxHeartbeats 4000000 in
theorem iq_Mod_token_0 (xs : List Int32) (c : Nat → List Value → ia_H → Option ia_R) (n : Nat) (v0 : Nat) (h : ia_H) :
  ia_qr xs c im_Mod_token (n + 1) 0 [.ref v0, .float 0] [] h = (if ia_cls h v0 = 10 then (ia_cI (c im_Mod_here [.ref v0] h) fun x2 h1 => (if (x2 : Int32) = ((10 : Int32) : Int32) then (ia_qr xs c im_Mod_token n 8 [.ref v0, .float 0] [] h1) else (if ia_cls h1 v0 = 10 then (ia_cI (c im_Mod_here [.ref v0] h1) fun x4 h3 => (if (x4 : Int32) = ((32 : Int32) : Int32) then (ia_qr xs c im_Mod_token n 8 [.ref v0, .float 0] [] h3) else ((ia_getI h3 v0 10 23).bind fun x5 => ((ia_putf h3 v0 10 24 (.int x5)).bind fun h6 => (if ia_cls h6 v0 = 10 then (ia_cI (c im_Mod_here [.ref v0] h6) fun x8 h7 => (if (x8 : Int32) = ((-1 : Int32) : Int32) then ((ia_putf h7 v0 10 25 (.int (4 : Int32))).bind fun h16 => (some (none, h16))) else (ia_cI (c im_Mod_isSmall [.int x8] h7) fun x10 h9 => (if (x10 : Int32) = (0 : Int32) then (ia_cI (c im_Mod_isDigit [.int x8] h9) fun x12 h11 => (if (x12 : Int32) = (0 : Int32) then (if ia_cls h11 v0 = 10 then (ia_cV (c im_Mod_sign [.ref v0, .int x8] h11) fun h13 => (some (none, h13))) else none) else ((ia_putf h11 v0 10 25 (.int (2 : Int32))).bind fun h14 => ((ia_putf h14 v0 10 26 (.int (0 : Int32))).bind fun h15 => (ia_qr xs c im_Mod_token n 81 [.ref v0, .float 0] [] h15))))) else (ia_qr xs c im_Mod_token n 32 [.ref v0, .float 0] [] h9))))) else none))))) else none))) else none) := rfl
set_option maxRecDepth 100000 in
set_option maxHeartbeats 4000000 in
theorem iq_Mod_token_8 (xs : List Int32) (c : Nat → List Value → ia_H → Option ia_R) (n : Nat) (v0 : Nat) (h : ia_H) :
  ia_qr xs c im_Mod_token (n + 1) 8 [.ref v0, .float 0] [] h = ((ia_getI h v0 10 23).bind fun x1 => ((ia_putf h v0 10 23 (.int (x1 + (1 : Int32)))).bind fun h2 => (ia_qr xs c im_Mod_token n 0 [.ref v0, .float 0] [] h2))) := rfl
set_option maxRecDepth 100000 in
set_option maxHeartbeats 4000000 in
theorem iq_Mod_token_32 (xs : List Int32) (c : Nat → List Value → ia_H → Option ia_R) (n : Nat) (v0 : Nat) (h : ia_H) :
  ia_qr xs c im_Mod_token (n + 1) 32 [.ref v0, .float 0] [] h = (if ia_cls h v0 = 10 then (ia_cI (c im_Mod_here [.ref v0] h) fun x2 h1 => (ia_cI (c im_Mod_isSmall [.int x2] h1) fun x4 h3 => (if (x4 : Int32) = (0 : Int32) then (if ia_cls h3 v0 = 10 then (ia_cI (c im_Mod_word [.ref v0] h3) fun x6 h5 => ((ia_putf h5 v0 10 26 (.int x6)).bind fun h7 => ((ia_getI h7 v0 10 26).bind fun x8 => (if (x8 : Int32) = ((-1 : Int32) : Int32) then ((ia_getI h7 v0 10 23).bind fun x9 => ((ia_getI h7 v0 10 24).bind fun x10 => (if ((6 : Int32) : Int32) < ((x9 - x10) : Int32) then (ia_qr xs c im_Mod_token n 64 [.ref v0, .float 0] [.int (5 : Int32), .ref v0] h7) else (ia_qr xs c im_Mod_token n 64 [.ref v0, .float 0] [.int (1 : Int32), .ref v0] h7)))) else (ia_qr xs c im_Mod_token n 64 [.ref v0, .float 0] [.int (0 : Int32), .ref v0] h7))))) else none) else ((ia_getI h3 v0 10 23).bind fun x11 => ((ia_putf h3 v0 10 23 (.int (x11 + (1 : Int32)))).bind fun h12 => (ia_qr xs c im_Mod_token n 32 [.ref v0, .float 0] [] h12)))))) else none) := rfl
set_option maxRecDepth 100000 in
set_option maxHeartbeats 4000000 in
theorem iq_Mod_token_64 (xs : List Int32) (c : Nat → List Value → ia_H → Option ia_R) (n : Nat) (v0 : Nat) (s0 : Int32) (s1 : Nat) (h : ia_H) :
  ia_qr xs c im_Mod_token (n + 1) 64 [.ref v0, .float 0] [.int s0, .ref s1] h = ((ia_putf h s1 10 25 (.int s0)).bind fun h1 => ((ia_getI h1 v0 10 25).bind fun x2 => (if (x2 : Int32) = ((1 : Int32) : Int32) then (if ia_cls h1 v0 = 10 then (ia_cV (c im_Mod_name [.ref v0] h1) fun h3 => (some (none, h3))) else none) else (some (none, h1))))) := rfl
set_option maxRecDepth 100000 in
set_option maxHeartbeats 4000000 in
theorem iq_Mod_token_81 (xs : List Int32) (c : Nat → List Value → ia_H → Option ia_R) (n : Nat) (v0 : Nat) (h : ia_H) :
  ia_qr xs c im_Mod_token (n + 1) 81 [.ref v0, .float 0] [] h = (if ia_cls h v0 = 10 then (ia_cI (c im_Mod_here [.ref v0] h) fun x2 h1 => (ia_cI (c im_Mod_isDigit [.int x2] h1) fun x4 h3 => (if (x4 : Int32) = (0 : Int32) then (some (none, h3)) else ((ia_getI h3 v0 10 26).bind fun x5 => (if ((99999 : Int32) : Int32) < (x5 : Int32) then ((ia_getI h3 v0 10 26).bind fun x9 => (ia_qr xs c im_Mod_token n 102 [.ref v0, .float 0] [.int x9, .ref v0] h3)) else ((ia_getI h3 v0 10 26).bind fun x6 => (if ia_cls h3 v0 = 10 then (ia_cI (c im_Mod_here [.ref v0] h3) fun x8 h7 => (ia_qr xs c im_Mod_token n 102 [.ref v0, .float 0] [.int ((((10 : Int32) * x6) + x8) - (48 : Int32)), .ref v0] h7)) else none))))))) else none) := rfl
set_option maxRecDepth 100000 in
set_option maxHeartbeats 4000000 in
theorem iq_Mod_token_102 (xs : List Int32) (c : Nat → List Value → ia_H → Option ia_R) (n : Nat) (v0 : Nat) (s0 : Int32) (s1 : Nat) (h : ia_H) :
  ia_qr xs c im_Mod_token (n + 1) 102 [.ref v0, .float 0] [.int s0, .ref s1] h = ((ia_putf h s1 10 26 (.int s0)).bind fun h1 => ((ia_getI h1 v0 10 23).bind fun x2 => ((ia_putf h1 v0 10 23 (.int (x2 + (1 : Int32)))).bind fun h3 => (ia_qr xs c im_Mod_token n 81 [.ref v0, .float 0] [] h3)))) := rfl
theorem iu_Mod_token (xs : List Int32) (d : Nat) (v0 : Nat) (h : ia_H) :
  ia_cal xs (d + 1) im_Mod_token [.ref v0] h = ia_qr xs (ia_cal xs d) im_Mod_token 1000000 0 [.ref v0, .float 0] [] h := ia_call_of (j := im_Mod_token) rfl
set_option maxRecDepth 100000 in
set_option maxHeartbeats 4000000 in
theorem iq_Mod_sign_0 (xs : List Int32) (c : Nat → List Value → ia_H → Option ia_R) (n : Nat) (v0 : Nat) (v1 : Int32) (h : ia_H) :
  ia_qr xs c im_Mod_sign (n + 1) 0 [.ref v0, .int v1] [] h = ((ia_getI h v0 10 23).bind fun x1 => ((ia_putf h v0 10 23 (.int (x1 + (1 : Int32)))).bind fun h2 => (if (v1 : Int32) = ((59 : Int32) : Int32) then (ia_qr xs c im_Mod_sign n 37 [.ref v0, .int v1] [.ref v0] h2) else (if (v1 : Int32) = ((40 : Int32) : Int32) then (ia_qr xs c im_Mod_sign n 37 [.ref v0, .int v1] [.ref v0] h2) else (if (v1 : Int32) = ((41 : Int32) : Int32) then (ia_qr xs c im_Mod_sign n 37 [.ref v0, .int v1] [.ref v0] h2) else (if (v1 : Int32) = ((43 : Int32) : Int32) then (ia_qr xs c im_Mod_sign n 37 [.ref v0, .int v1] [.ref v0] h2) else (if (v1 : Int32) = ((45 : Int32) : Int32) then (ia_qr xs c im_Mod_sign n 37 [.ref v0, .int v1] [.ref v0] h2) else (if (v1 : Int32) = ((42 : Int32) : Int32) then (ia_qr xs c im_Mod_sign n 37 [.ref v0, .int v1] [.ref v0] h2) else (if (v1 : Int32) = ((47 : Int32) : Int32) then (ia_qr xs c im_Mod_sign n 37 [.ref v0, .int v1] [.ref v0] h2) else (if (v1 : Int32) = ((60 : Int32) : Int32) then (ia_qr xs c im_Mod_sign n 37 [.ref v0, .int v1] [.ref v0] h2) else (if (v1 : Int32) = ((61 : Int32) : Int32) then (ia_qr xs c im_Mod_sign n 37 [.ref v0, .int v1] [.ref v0] h2) else (if (v1 : Int32) = ((62 : Int32) : Int32) then (ia_qr xs c im_Mod_sign n 37 [.ref v0, .int v1] [.ref v0] h2) else (ia_qr xs c im_Mod_sign n 40 [.ref v0, .int v1] [.int (5 : Int32), .ref v0] h2))))))))))))) := rfl
set_option maxRecDepth 100000 in
set_option maxHeartbeats 4000000 in
theorem iq_Mod_sign_37 (xs : List Int32) (c : Nat → List Value → ia_H → Option ia_R) (n : Nat) (v0 : Nat) (v1 : Int32) (s0 : Nat) (h : ia_H) :
  ia_qr xs c im_Mod_sign (n + 1) 37 [.ref v0, .int v1] [.ref s0] h = (ia_qr xs c im_Mod_sign n 40 [.ref v0, .int v1] [.int (3 : Int32), .ref s0] h) := rfl
set_option maxRecDepth 100000 in
set_option maxHeartbeats 4000000 in
theorem iq_Mod_sign_40 (xs : List Int32) (c : Nat → List Value → ia_H → Option ia_R) (n : Nat) (v0 : Nat) (v1 : Int32) (s0 : Int32) (s1 : Nat) (h : ia_H) :
  ia_qr xs c im_Mod_sign (n + 1) 40 [.ref v0, .int v1] [.int s0, .ref s1] h = ((ia_putf h s1 10 25 (.int s0)).bind fun h1 => ((ia_putf h1 v0 10 26 (.int v1)).bind fun h2 => (if (v1 : Int32) = ((60 : Int32) : Int32) then (if ia_cls h2 v0 = 10 then (ia_cI (c im_Mod_here [.ref v0] h2) fun x4 h3 => (if (x4 : Int32) = ((61 : Int32) : Int32) then ((ia_putf h3 v0 10 26 (.int (256 : Int32))).bind fun h5 => (ia_qr xs c im_Mod_sign n 54 [.ref v0, .int v1] [] h5)) else (ia_qr xs c im_Mod_sign n 54 [.ref v0, .int v1] [] h3))) else none) else (ia_qr xs c im_Mod_sign n 54 [.ref v0, .int v1] [] h2)))) := rfl
set_option maxRecDepth 100000 in
set_option maxHeartbeats 4000000 in
theorem iq_Mod_sign_54 (xs : List Int32) (c : Nat → List Value → ia_H → Option ia_R) (n : Nat) (v0 : Nat) (v1 : Int32) (h : ia_H) :
  ia_qr xs c im_Mod_sign (n + 1) 54 [.ref v0, .int v1] [] h = (if (v1 : Int32) = ((60 : Int32) : Int32) then (if ia_cls h v0 = 10 then (ia_cI (c im_Mod_here [.ref v0] h) fun x2 h1 => (if (x2 : Int32) = ((62 : Int32) : Int32) then ((ia_putf h1 v0 10 26 (.int (257 : Int32))).bind fun h3 => (ia_qr xs c im_Mod_sign n 64 [.ref v0, .int v1] [] h3)) else (ia_qr xs c im_Mod_sign n 64 [.ref v0, .int v1] [] h1))) else none) else (ia_qr xs c im_Mod_sign n 64 [.ref v0, .int v1] [] h)) := rfl
set_option maxRecDepth 100000 in
set_option maxHeartbeats 4000000 in
theorem iq_Mod_sign_64 (xs : List Int32) (c : Nat → List Value → ia_H → Option ia_R) (n : Nat) (v0 : Nat) (v1 : Int32) (h : ia_H) :
  ia_qr xs c im_Mod_sign (n + 1) 64 [.ref v0, .int v1] [] h = (if (v1 : Int32) = ((62 : Int32) : Int32) then (if ia_cls h v0 = 10 then (ia_cI (c im_Mod_here [.ref v0] h) fun x2 h1 => (if (x2 : Int32) = ((61 : Int32) : Int32) then ((ia_putf h1 v0 10 26 (.int (258 : Int32))).bind fun h3 => (ia_qr xs c im_Mod_sign n 74 [.ref v0, .float 0] [] h3)) else (ia_qr xs c im_Mod_sign n 74 [.ref v0, .float 0] [] h1))) else none) else (ia_qr xs c im_Mod_sign n 74 [.ref v0, .float 0] [] h)) := rfl
set_option maxRecDepth 100000 in
set_option maxHeartbeats 4000000 in
theorem iq_Mod_sign_74 (xs : List Int32) (c : Nat → List Value → ia_H → Option ia_R) (n : Nat) (v0 : Nat) (h : ia_H) :
  ia_qr xs c im_Mod_sign (n + 1) 74 [.ref v0, .float 0] [] h = ((ia_getI h v0 10 26).bind fun x1 => (if (x1 : Int32) < ((256 : Int32) : Int32) then (some (none, h)) else ((ia_getI h v0 10 23).bind fun x2 => ((ia_putf h v0 10 23 (.int (x2 + (1 : Int32)))).bind fun h3 => (some (none, h3)))))) := rfl
theorem iu_Mod_sign (xs : List Int32) (d : Nat) (v0 : Nat) (v1 : Int32) (h : ia_H) :
  ia_cal xs (d + 1) im_Mod_sign [.ref v0, .int v1] h = ia_qr xs (ia_cal xs d) im_Mod_sign 1000000 0 [.ref v0, .int v1] [] h := ia_call_of (j := im_Mod_sign) rfl
set_option maxRecDepth 100000 in
set_option maxHeartbeats 4000000 in
theorem iq_Mod_word_0 (xs : List Int32) (c : Nat → List Value → ia_H → Option ia_R) (n : Nat) (v0 : Nat) (h : ia_H) :
  ia_qr xs c im_Mod_word (n + 1) 0 [.ref v0, .float 0, .float 0, .float 0] [] h = (ia_qr xs c im_Mod_word n 4 [.ref v0, .int (0 : Int32), .int (0 : Int32), .float 0] [] h) := rfl
set_option maxRecDepth 100000 in
set_option maxHeartbeats 4000000 in
theorem iq_Mod_word_4 (xs : List Int32) (c : Nat → List Value → ia_H → Option ia_R) (n : Nat) (v0 : Nat) (v1 : Int32) (v2 : Int32) (h : ia_H) :
  ia_qr xs c im_Mod_word (n + 1) 4 [.ref v0, .int v1, .int v2, .float 0] [] h = (if ia_isS 3 then (ia_cI (c im_Str_length [.retAddr 3] h) fun x2 h1 => (if (v2 : Int32) < (x2 : Int32) then (ia_qr xs c im_Mod_word n 10 [.ref v0, .int v1, .int v2, .int (0 : Int32)] [] h1) else (some (some (.int (-1 : Int32)), h1)))) else none) := rfl
set_option maxRecDepth 100000 in
set_option maxHeartbeats 4000000 in
theorem iq_Mod_word_10 (xs : List Int32) (c : Nat → List Value → ia_H → Option ia_R) (n : Nat) (v0 : Nat) (v1 : Int32) (v2 : Int32) (v3 : Int32) (h : ia_H) :
  ia_qr xs c im_Mod_word (n + 1) 10 [.ref v0, .int v1, .int v2, .int v3] [] h = (if ia_isS 3 then (ia_cI (c im_Str_charAt [.retAddr 3, .int (v2 + v3)] h) fun x2 h1 => (if (x2 : Int32) = ((32 : Int32) : Int32) then (ia_qr xs c im_Mod_word n 39 [.ref v0, .int v1, .int v2, .int v3] [] h1) else ((ia_getI h1 v0 10 24).bind fun x3 => ((ia_getI h1 v0 10 23).bind fun x4 => (if ((x3 + v3) : Int32) < (x4 : Int32) then ((ia_getR h1 v0 10 1).bind fun r5 => ((ia_getI h1 v0 10 24).bind fun x6 => ((ia_ald h1 r5 0 (x6 + v3)).bind fun x7 => (if ia_isS 3 then (ia_cI (c im_Str_charAt [.retAddr 3, .int (v2 + v3)] h1) fun x9 h8 => (if (x7 : Int32) = (x9 : Int32) then (ia_qr xs c im_Mod_word n 10 [.ref v0, .int v1, .int v2, .int (v3 + (1 : Int32))] [] h8) else (ia_qr xs c im_Mod_word n 39 [.ref v0, .int v1, .int v2, .int v3] [] h8))) else none)))) else (ia_qr xs c im_Mod_word n 39 [.ref v0, .int v1, .int v2, .int v3] [] h1)))))) else none) := rfl
set_option maxRecDepth 100000 in
set_option maxHeartbeats 4000000 in
theorem iq_Mod_word_39 (xs : List Int32) (c : Nat → List Value → ia_H → Option ia_R) (n : Nat) (v0 : Nat) (v1 : Int32) (v2 : Int32) (v3 : Int32) (h : ia_H) :
  ia_qr xs c im_Mod_word (n + 1) 39 [.ref v0, .int v1, .int v2, .int v3] [] h = (if ia_isS 3 then (ia_cI (c im_Str_charAt [.retAddr 3, .int (v2 + v3)] h) fun x2 h1 => (if (x2 : Int32) = ((32 : Int32) : Int32) then ((ia_getI h1 v0 10 24).bind fun x3 => ((ia_getI h1 v0 10 23).bind fun x4 => (if ((x3 + v3) : Int32) = (x4 : Int32) then (some (some (.int v1), h1)) else (ia_qr xs c im_Mod_word n 55 [.ref v0, .int v1, .int v2, .float 0] [] h1)))) else (ia_qr xs c im_Mod_word n 55 [.ref v0, .int v1, .int v2, .float 0] [] h1))) else none) := rfl
set_option maxRecDepth 100000 in
set_option maxHeartbeats 4000000 in
theorem iq_Mod_word_55 (xs : List Int32) (c : Nat → List Value → ia_H → Option ia_R) (n : Nat) (v0 : Nat) (v1 : Int32) (v2 : Int32) (h : ia_H) :
  ia_qr xs c im_Mod_word (n + 1) 55 [.ref v0, .int v1, .int v2, .float 0] [] h = (if ia_isS 3 then (ia_cI (c im_Str_charAt [.retAddr 3, .int v2] h) fun x2 h1 => (if (x2 : Int32) = ((32 : Int32) : Int32) then (ia_qr xs c im_Mod_word n 4 [.ref v0, .int (v1 + (1 : Int32)), .int (v2 + (1 : Int32)), .float 0] [] h1) else (ia_qr xs c im_Mod_word n 55 [.ref v0, .int v1, .int (v2 + (1 : Int32)), .float 0] [] h1))) else none) := rfl
theorem iu_Mod_word (xs : List Int32) (d : Nat) (v0 : Nat) (h : ia_H) :
  ia_cal xs (d + 1) im_Mod_word [.ref v0] h = ia_qr xs (ia_cal xs d) im_Mod_word 1000000 0 [.ref v0, .float 0, .float 0, .float 0] [] h := ia_call_of (j := im_Mod_word) rfl
set_option maxRecDepth 100000 in
set_option maxHeartbeats 4000000 in
theorem iq_Mod_name_0 (xs : List Int32) (c : Nat → List Value → ia_H → Option ia_R) (n : Nat) (v0 : Nat) (h : ia_H) :
  ia_qr xs c im_Mod_name (n + 1) 0 [.ref v0, .float 0] [] h = ((ia_putf h v0 10 26 (.int (0 : Int32))).bind fun h1 => (ia_qr xs c im_Mod_name n 5 [.ref v0, .int (0 : Int32)] [] h1)) := rfl
set_option maxRecDepth 100000 in
set_option maxHeartbeats 4000000 in
theorem iq_Mod_name_5 (xs : List Int32) (c : Nat → List Value → ia_H → Option ia_R) (n : Nat) (v0 : Nat) (v1 : Int32) (h : ia_H) :
  ia_qr xs c im_Mod_name (n + 1) 5 [.ref v0, .int v1] [] h = (if (v1 : Int32) < ((6 : Int32) : Int32) then ((ia_getI h v0 10 26).bind fun x1 => ((ia_getI h v0 10 24).bind fun x2 => ((ia_getI h v0 10 23).bind fun x3 => (if ((x2 + v1) : Int32) < (x3 : Int32) then ((ia_getR h v0 10 1).bind fun r5 => ((ia_getI h v0 10 24).bind fun x6 => ((ia_ald h r5 0 (x6 + v1)).bind fun x7 => ((ia_putf h v0 10 26 (.int ((x1 <<< ((5 : Int32) &&& 31)) ||| ((x7 - (97 : Int32)) + (1 : Int32))))).bind fun h8 => (ia_qr xs c im_Mod_name n 5 [.ref v0, .int (v1 + (1 : Int32))] [] h8))))) else ((ia_putf h v0 10 26 (.int ((x1 <<< ((5 : Int32) &&& 31)) ||| (0 : Int32)))).bind fun h4 => (ia_qr xs c im_Mod_name n 5 [.ref v0, .int (v1 + (1 : Int32))] [] h4)))))) else (some (none, h))) := rfl
theorem iu_Mod_name (xs : List Int32) (d : Nat) (v0 : Nat) (h : ia_H) :
  ia_cal xs (d + 1) im_Mod_name [.ref v0] h = ia_qr xs (ia_cal xs d) im_Mod_name 1000000 0 [.ref v0, .float 0] [] h := ia_call_of (j := im_Mod_name) rfl
theorem iq_Mod_wrong_0 (xs : List Int32) (c : Nat → List Value → ia_H → Option ia_R) (n : Nat) (v0 : Nat) (v1 : Int32) (h : ia_H) :
  ia_qr xs c im_Mod_wrong (n + 1) 0 [.ref v0, .int v1] [] h = ((ia_getI h v0 10 27).bind fun x1 => (if (x1 : Int32) = (0 : Int32) then ((ia_putf h v0 10 27 (.int v1)).bind fun h2 => ((ia_getI h2 v0 10 24).bind fun x3 => ((ia_putf h2 v0 10 28 (.int x3)).bind fun h4 => (some (none, h4))))) else (some (none, h)))) := rfl
theorem iu_Mod_wrong (xs : List Int32) (d : Nat) (v0 : Nat) (v1 : Int32) (h : ia_H) :
  ia_cal xs (d + 1) im_Mod_wrong [.ref v0, .int v1] h = ia_qr xs (ia_cal xs d) im_Mod_wrong 1000000 0 [.ref v0, .int v1] [] h := ia_call_of (j := im_Mod_wrong) rfl
theorem iq_Mod_isWord_0 (xs : List Int32) (c : Nat → List Value → ia_H → Option ia_R) (n : Nat) (v0 : Nat) (v1 : Int32) (h : ia_H) :
  ia_qr xs c im_Mod_isWord (n + 1) 0 [.ref v0, .int v1] [] h = ((ia_getI h v0 10 27).bind fun x1 => (if (x1 : Int32) = (0 : Int32) then ((ia_getI h v0 10 25).bind fun x2 => (if (x2 : Int32) = (0 : Int32) then ((ia_getI h v0 10 26).bind fun x3 => (if (x3 : Int32) = (v1 : Int32) then (if (1 : Int32) = (0 : Int32) ∨ (1 : Int32) = (1 : Int32) then some (some (.int (1 : Int32)), h) else none) else (if (0 : Int32) = (0 : Int32) ∨ (0 : Int32) = (1 : Int32) then some (some (.int (0 : Int32)), h) else none))) else (if (0 : Int32) = (0 : Int32) ∨ (0 : Int32) = (1 : Int32) then some (some (.int (0 : Int32)), h) else none))) else (if (0 : Int32) = (0 : Int32) ∨ (0 : Int32) = (1 : Int32) then some (some (.int (0 : Int32)), h) else none))) := rfl
theorem iu_Mod_isWord (xs : List Int32) (d : Nat) (v0 : Nat) (v1 : Int32) (h : ia_H) :
  ia_cal xs (d + 1) im_Mod_isWord [.ref v0, .int v1] h = ia_qr xs (ia_cal xs d) im_Mod_isWord 1000000 0 [.ref v0, .int v1] [] h := ia_call_of (j := im_Mod_isWord) rfl
theorem iq_Mod_isSign_0 (xs : List Int32) (c : Nat → List Value → ia_H → Option ia_R) (n : Nat) (v0 : Nat) (v1 : Int32) (h : ia_H) :
  ia_qr xs c im_Mod_isSign (n + 1) 0 [.ref v0, .int v1] [] h = ((ia_getI h v0 10 27).bind fun x1 => (if (x1 : Int32) = (0 : Int32) then ((ia_getI h v0 10 25).bind fun x2 => (if (x2 : Int32) = ((3 : Int32) : Int32) then ((ia_getI h v0 10 26).bind fun x3 => (if (x3 : Int32) = (v1 : Int32) then (if (1 : Int32) = (0 : Int32) ∨ (1 : Int32) = (1 : Int32) then some (some (.int (1 : Int32)), h) else none) else (if (0 : Int32) = (0 : Int32) ∨ (0 : Int32) = (1 : Int32) then some (some (.int (0 : Int32)), h) else none))) else (if (0 : Int32) = (0 : Int32) ∨ (0 : Int32) = (1 : Int32) then some (some (.int (0 : Int32)), h) else none))) else (if (0 : Int32) = (0 : Int32) ∨ (0 : Int32) = (1 : Int32) then some (some (.int (0 : Int32)), h) else none))) := rfl
theorem iu_Mod_isSign (xs : List Int32) (d : Nat) (v0 : Nat) (v1 : Int32) (h : ia_H) :
  ia_cal xs (d + 1) im_Mod_isSign [.ref v0, .int v1] h = ia_qr xs (ia_cal xs d) im_Mod_isSign 1000000 0 [.ref v0, .int v1] [] h := ia_call_of (j := im_Mod_isSign) rfl
theorem iq_Mod_goOn_0 (xs : List Int32) (c : Nat → List Value → ia_H → Option ia_R) (n : Nat) (v0 : Nat) (h : ia_H) :
  ia_qr xs c im_Mod_goOn (n + 1) 0 [.ref v0] [] h = ((ia_getI h v0 10 27).bind fun x1 => (if (x1 : Int32) = (0 : Int32) then (if ia_cls h v0 = 10 then (ia_cV (c im_Mod_token [.ref v0] h) fun h2 => (some (none, h2))) else none) else (some (none, h)))) := rfl
theorem iu_Mod_goOn (xs : List Int32) (d : Nat) (v0 : Nat) (h : ia_H) :
  ia_cal xs (d + 1) im_Mod_goOn [.ref v0] h = ia_qr xs (ia_cal xs d) im_Mod_goOn 1000000 0 [.ref v0] [] h := ia_call_of (j := im_Mod_goOn) rfl
set_option maxRecDepth 100000 in
set_option maxHeartbeats 4000000 in
theorem iq_Mod_numeral_0 (xs : List Int32) (c : Nat → List Value → ia_H → Option ia_R) (n : Nat) (v0 : Nat) (v1 : Int32) (v2 : Int32) (h : ia_H) :
  ia_qr xs c im_Mod_numeral (n + 1) 0 [.ref v0, .int v1, .int v2, .float 0] [] h = ((ia_getI h v0 10 27).bind fun x1 => (if (x1 : Int32) = (0 : Int32) then ((ia_getI h v0 10 25).bind fun x2 => (if (x2 : Int32) = ((2 : Int32) : Int32) then ((ia_getI h v0 10 26).bind fun x3 => (if (x3 : Int32) < (v1 : Int32) then (ia_qr xs c im_Mod_numeral n 21 [.ref v0, .int v1, .float 0, .float 0] [] h) else ((ia_getI h v0 10 26).bind fun x4 => (if (v2 : Int32) < (x4 : Int32) then (ia_qr xs c im_Mod_numeral n 21 [.ref v0, .int v1, .float 0, .float 0] [] h) else (ia_qr xs c im_Mod_numeral n 24 [.ref v0, .int v1, .float 0, .float 0] [] h))))) else (if ia_cls h v0 = 10 then (ia_cV (c im_Mod_wrong [.ref v0, .int (1 : Int32)] h) fun h5 => (ia_qr xs c im_Mod_numeral n 24 [.ref v0, .int v1, .float 0, .float 0] [] h5)) else none))) else (some (some (.int v1), h)))) := rfl
set_option maxRecDepth 100000 in
set_option maxHeartbeats 4000000 in
theorem iq_Mod_numeral_21 (xs : List Int32) (c : Nat → List Value → ia_H → Option ia_R) (n : Nat) (v0 : Nat) (v1 : Int32) (h : ia_H) :
  ia_qr xs c im_Mod_numeral (n + 1) 21 [.ref v0, .int v1, .float 0, .float 0] [] h = (if ia_cls h v0 = 10 then (ia_cV (c im_Mod_wrong [.ref v0, .int (2 : Int32)] h) fun h1 => (ia_qr xs c im_Mod_numeral n 24 [.ref v0, .int v1, .float 0, .float 0] [] h1)) else none) := rfl
set_option maxRecDepth 100000 in
set_option maxHeartbeats 4000000 in
theorem iq_Mod_numeral_24 (xs : List Int32) (c : Nat → List Value → ia_H → Option ia_R) (n : Nat) (v0 : Nat) (v1 : Int32) (h : ia_H) :
  ia_qr xs c im_Mod_numeral (n + 1) 24 [.ref v0, .int v1, .float 0, .float 0] [] h = ((ia_getI h v0 10 27).bind fun x1 => (if (x1 : Int32) = (0 : Int32) then ((ia_getI h v0 10 26).bind fun x2 => (if ia_cls h v0 = 10 then (ia_cV (c im_Mod_token [.ref v0] h) fun h3 => (some (some (.int x2), h3))) else none)) else (some (some (.int v1), h)))) := rfl
theorem iu_Mod_numeral (xs : List Int32) (d : Nat) (v0 : Nat) (v1 : Int32) (v2 : Int32) (h : ia_H) :
  ia_cal xs (d + 1) im_Mod_numeral [.ref v0, .int v1, .int v2] h = ia_qr xs (ia_cal xs d) im_Mod_numeral 1000000 0 [.ref v0, .int v1, .int v2, .float 0] [] h := ia_call_of (j := im_Mod_numeral) rfl
theorem iq_Mod_found_0 (xs : List Int32) (c : Nat → List Value → ia_H → Option ia_R) (n : Nat) (v0 : Nat) (v1 : Int32) (v2 : Int32) (v3 : Int32) (h : ia_H) :
  ia_qr xs c im_Mod_found (n + 1) 0 [.ref v0, .int v1, .int v2, .int v3, .float 0] [] h = (ia_qr xs c im_Mod_found n 2 [.ref v0, .int v1, .int v2, .int v3, .int (0 : Int32)] [] h) := rfl
theorem iq_Mod_found_2 (xs : List Int32) (c : Nat → List Value → ia_H → Option ia_R) (n : Nat) (v0 : Nat) (v1 : Int32) (v2 : Int32) (v3 : Int32) (v4 : Int32) (h : ia_H) :
  ia_qr xs c im_Mod_found (n + 1) 2 [.ref v0, .int v1, .int v2, .int v3, .int v4] [] h = (if (v4 : Int32) < (v2 : Int32) then ((ia_ald h v0 0 (v1 + v4)).bind fun x1 => (if (x1 : Int32) = (v3 : Int32) then (some (some (.int v4), h)) else (ia_qr xs c im_Mod_found n 2 [.ref v0, .int v1, .int v2, .int v3, .int (v4 + (1 : Int32))] [] h))) else (some (some (.int (-1 : Int32)), h))) := rfl
theorem iu_Mod_found (xs : List Int32) (d : Nat) (v0 : Nat) (v1 : Int32) (v2 : Int32) (v3 : Int32) (h : ia_H) :
  ia_cal xs (d + 1) im_Mod_found [.ref v0, .int v1, .int v2, .int v3] h = ia_qr xs (ia_cal xs d) im_Mod_found 1000000 0 [.ref v0, .int v1, .int v2, .int v3, .float 0] [] h := ia_call_of (j := im_Mod_found) rfl
