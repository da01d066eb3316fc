/-! EngagedTone.ring keeps its contract: it answers, or throws. -/
def yRi : MethodName := ⟨"EngagedTone", "ring", "(II)I"⟩
def wsRi : List Cond := Cond.code yRi prog_1_method_7_code 3 (some .int) :: ia_T
theorem dRi8 : decode prog_1_method_7_code 8 = .ok (.new 115, 3) := by decide +kernel
theorem dRi11 : decode prog_1_method_7_code 11 = .ok (.dup, 1) := by decide +kernel
theorem dRi12 : decode prog_1_method_7_code 12 = .ok (.ldc 117, 2) := by decide +kernel
theorem dRi14 : decode prog_1_method_7_code 14 = .ok (.invokespecial 119, 3) := by decide +kernel
theorem dRi17 : decode prog_1_method_7_code 17 = .ok (.athrow, 1) := by decide +kernel
theorem dRi116 : decode prog_1_method_7_code 116 = .ok (.new 141, 3) := by decide +kernel
theorem dRi119 : decode prog_1_method_7_code 119 = .ok (.dup, 1) := by decide +kernel
theorem dRi120 : decode prog_1_method_7_code 120 = .ok (.ldc 143, 2) := by decide +kernel
theorem dRi122 : decode prog_1_method_7_code 122 = .ok (.invokespecial 145, 3) := by decide +kernel
theorem dRi125 : decode prog_1_method_7_code 125 = .ok (.athrow, 1) := by decide +kernel
theorem dIo0 : decode prog_18_method_2_code 0 = .ok (.aload_n 0, 1) := by decide +kernel
theorem dIo1 : decode prog_18_method_2_code 1 = .ok (.aload_n 1, 1) := by decide +kernel
theorem dIo2 : decode prog_18_method_2_code 2 = .ok (.invokespecial 7, 3) := by decide +kernel
theorem dIo5 : decode prog_18_method_2_code 5 = .ok (.return_, 1) := by decide +kernel
theorem dNs0 : decode prog_29_method_4_code 0 = .ok (.aload_n 0, 1) := by decide +kernel
theorem dNs1 : decode prog_29_method_4_code 1 = .ok (.aload_n 1, 1) := by decide +kernel
theorem dNs2 : decode prog_29_method_4_code 2 = .ok (.invokespecial 13, 3) := by decide +kernel
theorem dNs5 : decode prog_29_method_4_code 5 = .ok (.return_, 1) := by decide +kernel
theorem ir_fio : Bundle.fit irIO = true := by decide +kernel
theorem ir_fns : Bundle.fit irNS = true := by decide +kernel
theorem ir_fre : Bundle.fit irRE = true := by decide +kernel
theorem ir_fnm : ∀ n ∈ irNm, Bundle.fit n = true := by decide +kernel
theorem irK_mono {r : ia_R} : ∀ t ls st h, irK t ls st h = some r → h.1 ≤ r.2.1 ∧ h.2.1 ≤ r.2.2.1 := by
  intro t ls st h e
  unfold irK at e
  split at e
  · split at e
    · cases e
      exact ⟨Nat.le_succ _, Nat.le_add_right _ 6⟩
    · split at e
      · cases e
        exact ⟨Nat.le_succ _, Nat.le_add_right _ 6⟩
      · cases e
  · cases e
theorem ia_rep.dead {D : va_G} {cA : Nat → ClassId} {xt : Nat → Nat} {base : Nat} {h : ia_H} {H H' : Heap} (hr : ia_rep D cA xt base h H) (hz : H'.size = H.size + 1) (ho : ∀ q : Nat, q < H.size → H'[q]? = H[q]?) (n : Nat) : ia_rep D cA xt base (h.1 + 1, h.2.1 + n, h.2.2) H' := by
  refine ⟨by rw [hz, hr.1]; rfl, fun k hk => ?_, fun k hk => ?_⟩
  · have hk2 : k < h.1 + 1 := hk
    rcases Nat.lt_or_ge k h.1 with q | q
    · exact (hr.2.1 k q).kept (ho _ (by rw [hr.1]; omega))
    · show ia_at D cA xt base k (h.2.2 k) H'
      rw [hr.2.2 k q]
      intro r hr'
      cases hr'
  · have hk2 : h.1 + 1 ≤ k := hk
    exact hr.2.2 k (by omega)
section KX7
variable (l : Launch) (D : va_G) (cA : Nat → ClassId) (xt : Nat → Nat) (base : Nat)
def irQ (r : ia_R) : Array Value → State → Outcome → State → Prop := fun a st o t => (∃ x, r.1 = some (.int x)) ∧ ia_Qc D cA xt base r a st o t
def irX (r : ia_R) : String → State → State → Prop := fun E st t => ((r.1 = some (.float 1) ∧ E = irIO) ∨ (r.1 = some (.float 2) ∧ E = irNS)) ∧ ia_rep D cA xt base r.2 t.heap ∧ va_F (fun q => base ≤ q) st t
set_option maxHeartbeats 2000000 in
theorem c_Ri {xs : List Int32} {sa sb d x : Nat} {p0 p1 : Int32} {h : ia_H} {r : ia_R} (hst : l.stackTraces = false) (hokM : ∀ j ∈ ia_jL, ia_okM j = true ∧ ia_pcOf (ia_pg j).1 0 = 0) (e1 : irR xs d x p0 p1 h = some r) :
    vx_Met l yRi wsRi (ia_rm (d + 1) (r.2.1 - h.1) (r.2.2.1 - h.2.1)) (ia_Pc D cA xt base xs (irE base sa sb) [.ref x, .int p0, .int p1] h) (irQ D cA xt base r) (irX D cA xt base r) (r.2.1 - h.1) (r.2.2.1 - h.2.1) (fun q => base ≤ q) := by
  have hE := ir_Ek base sa sb
  have hm := ia_goM (xs := xs) (code := irC) (cal := ia_cal xs d) (bk := irK) (r := r) irK_mono (ia_callM d) 60 0 _ _ h e1
  refine vx_ofW (cc := prog_1_method_7_code) (maxL := 3) (ret := some .int) (by decide) rfl ?_
  intro p e s m args below meth c s₁ B hml htab hPc
  obtain ⟨rfl, hrep, hX⟩ := hPc
  have hx := B.exec
  have hb := B.bytes
  have hr := B.returns
  have hlocks := B.notSynchronized
  have hts0 := atoms_spec (ws := wsRi) B.pre
  have hts : ∀ w ∈ ia_T, w.before ([.ref x, .int p0, .int p1].map (ia_tr xt base)).toArray s = true := fun w hw => hts0 w (List.mem_cons_of_mem _ hw)
  have hown : s.vm.findClass (ia_on 9) = some m.cls := findClass_of_methodNamed B.named
  have hC : ia_C p s m ([.ref x, .int p0, .int p1].map (ia_tr xt base)).toArray c D cA xt base xs (irE base sa sb) 9 3 prog_1_method_7_code := ⟨hx, hb, hml, hown, hts, hX⟩
  have hRR : (headSpec wsRi (ia_rm (d + 1) (r.2.1 - h.1) (r.2.2.1 - h.2.1))).room = ia_rm (d + 1) (r.2.1 - h.1) (r.2.2.1 - h.2.1) := rfl
  rw [hRR]
  have hR1 : (ia_rm (d + 1) (r.2.1 - h.1) (r.2.2.1 - h.2.1)).cells + h.1 = r.2.1 := by show r.2.1 - h.1 + h.1 = r.2.1; omega
  have hR2 : (ia_rm (d + 1) (r.2.1 - h.1) (r.2.2.1 - h.2.1)).slots + h.2.1 = r.2.2.1 := by show r.2.2.1 - h.2.1 + h.2.1 = r.2.2.1; omega
  have hR3 : d + 21 ≤ (ia_rm (d + 1) (r.2.1 - h.1) (r.2.2.1 - h.2.1)).frames := by show d + 21 ≤ d + 1 + 20; omega
  have hR4 : 64 * d + 2064 ≤ (ia_rm (d + 1) (r.2.1 - h.1) (r.2.2.1 - h.2.1)).locals := by show 64 * d + 2064 ≤ 64 * (d + 1) + 2000; omega
  obtain ⟨n1, n2, n3, n4, n5, n6⟩ := hX.2.2.2.2.2.2.2
  rw [lg_entry_eq]
  have run := ia_goS (l := l) (e := e) (below := below) (meth := meth) (ini := false) (rt := some .int) (code := irC) (d := d) (bk := irK) (Q := vx_MQ below (irQ D cA xt base r) (irX D cA xt base r) ([.ref x, .int p0, .int p1].map (ia_tr xt base)).toArray s (r.2.1 - h.1) (r.2.2.1 - h.2.1) (fun q => base ≤ q)) hE hC (fun q => nomatch q) hR1 hR2 hR3 hR4 (ia_callM d) (ia_calT hE hokM d) (ik_so hE hC (by decide) hR1 hR2 (by omega) (by omega)) irC_ok irK_mono (fun t ls st h' H locs cells slots sl hbk hZ hl hnl => ?_) (fun pc v h' H locs cells slots sl hro hrv hZ => ?_) 60 0 [.ref x, .int p0, .int p1] [] h s.heap [] 0 0 _ e1 ⟨hrep, va_S.rf, by omega, by omega⟩ (ia_lr.entry (n := 3) (as := [.ref x, .int p0, .int p1]) rfl) rfl
  · exact run
  · obtain ⟨hr', hS', z1, z2⟩ := hZ
    have hsz : sl.size = c.maxLocals := by rw [hl.1, hnl, hml]
    unfold irK at hbk
    split at hbk
    · split at hbk
      · rename_i ht
        subst ht
        cases hbk
        refine ix_throw (pc := 8) (bx := prog_18_method_2_code) (own := RX9) (cls := irIO) (up := irRE) (text := "no such call") (names := irNm) (ik := 115) (is := 117) (ic := 119) (ix := 7) (sa := sa) (A := fun q => base ≤ q) hx hb hst hown ir_fio ir_fre ir_fnm dIo0 dIo1 dIo2 dIo5 (hts _ ir_k115) (hts _ ir_i22) n4 (vx_hat (fun w hw => hts w (List.mem_filter.mpr ⟨ir_g0 w hw, (List.mem_filter.mp hw).2⟩)) ir_b0 (fun w hw => va_Nw.use (ir_bo w hw) (n1 w hw))) ir_o0 n2 n3 hS' hsz dRi8 dRi11 dRi12 dRi14 dRi17 (fun z hz => (htab z hz).elim) ?_ ?_ ?_ ?_ hlocks (fun t _ hz hq => ⟨Or.inl ⟨rfl, rfl⟩, hr'.dead hz hq 6, ?_⟩) hS'.2.2 ?_ ?_
        · show 1 + 4 < d + 1 + 20
          omega
        · show 0 + (13 * (1 + 2) + 43) ≤ 64 * (d + 1) + 2000
          omega
        · show cells + 1 ≤ h'.1 + 1 - h.1
          omega
        · show slots + 6 ≤ h'.2.1 + 6 - h.2.1
          omega
        · exact ⟨by rw [hz]; exact Nat.le_succ_of_le hS'.1, fun q h1 h2 => (hq q (Nat.lt_of_lt_of_le h1 hS'.1)).trans (hS'.2.1 q h1 h2)⟩
        · show cells + 1 ≤ h'.1 + 1 - h.1
          omega
        · show slots + 6 ≤ h'.2.1 + 6 - h.2.1
          omega
      · split at hbk
        · rename_i ht
          subst ht
          cases hbk
          refine ix_throw (pc := 116) (bx := prog_29_method_4_code) (own := RX9) (cls := irNS) (up := irRE) (text := "no such what") (names := irNm) (ik := 141) (is := 143) (ic := 145) (ix := 13) (sa := sb) (A := fun q => base ≤ q) hx hb hst hown ir_fns ir_fre ir_fnm dNs0 dNs1 dNs2 dNs5 (hts _ ir_k141) (hts _ ir_i23) n5 (vx_hat (fun w hw => hts w (List.mem_filter.mpr ⟨ir_g1 w hw, (List.mem_filter.mp hw).2⟩)) ir_b1 (fun w hw => va_Nw.use (ir_bo w hw) (n1 w hw))) ir_o1 n2 n3 hS' hsz dRi116 dRi119 dRi120 dRi122 dRi125 (fun z hz => (htab z hz).elim) ?_ ?_ ?_ ?_ hlocks (fun t _ hz hq => ⟨Or.inr ⟨rfl, rfl⟩, hr'.dead hz hq 6, ?_⟩) hS'.2.2 ?_ ?_
          · show 1 + 4 < d + 1 + 20
            omega
          · show 0 + (13 * (1 + 2) + 43) ≤ 64 * (d + 1) + 2000
            omega
          · show cells + 1 ≤ h'.1 + 1 - h.1
            omega
          · show slots + 6 ≤ h'.2.1 + 6 - h.2.1
            omega
          · exact ⟨by rw [hz]; exact Nat.le_succ_of_le hS'.1, fun q h1 h2 => (hq q (Nat.lt_of_lt_of_le h1 hS'.1)).trans (hS'.2.1 q h1 h2)⟩
          · show cells + 1 ≤ h'.1 + 1 - h.1
            omega
          · show slots + 6 ≤ h'.2.1 + 6 - h.2.1
            omega
        · cases hbk
    · cases hbk
  · obtain ⟨hr', hS', z1, z2⟩ := hZ
    subst hrv
    have e1 : (v, h').2.1 - h.1 = cells := by show h'.1 - h.1 = cells; omega
    have e2 : (v, h').2.2.1 - h.2.1 = slots := by show h'.2.1 - h.2.1 = slots; omega
    rw [e1, e2]
    rcases hro with ⟨y, rfl, hd, -⟩ | ⟨y, rfl, hd, hrt⟩ | ⟨a, nm, rfl, hd, hrt⟩ | ⟨rfl, hd, hrt⟩
    · exact vx_ret (W.iret hx hb (by rw [hr]) (fun t ht _ => ⟨⟨y, rfl⟩, rfl, by rw [ht]; exact hr', hS'.F ht⟩) hS'.2.2 hd)
    · cases hrt
    · cases hrt
    · cases hrt
end KX7
