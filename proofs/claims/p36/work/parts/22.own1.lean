/-! the law's own methods: size, seen, refusesAny, refuses; laid by program (wip/p36/gen) -/
def seenP (z : StV) : Int64 := 31 * (31 * seL z.2.2.2.2.2.2.2.2.1 z.2.2.2.2.2.2.2.2.2.1 z.2.2.2.2.2.2.2.2.2.2 (seW z.2.2.2.2.2.2.2.1 (31 * (31 * (31 * (163 + (z.1 : Int32).toInt64) + (nI z.2.2.2.2.2.1 : Int32).toInt64) + (sumW z.2.2.2.2.2.2.2.1 z.2.2.2.2.2.1 : Int32).toInt64) + (nI z.2.2.2.2.2.2.1 : Int32).toInt64) z.2.2.2.2.2.1) z.2.2.2.2.2.2.1 + ((wgS z.2.2.2.2.2.2.2.1 z.2.2.1 z.2.2.2.1 z.2.2.2.2.1 z.1 z.2.2.2.2.2.1).2.2 : Int32).toInt64) + (nI (tsGo 40000 z.2.1 65536 0 z.1) : Int32).toInt64
abbrev rmmL_size : Room := { frames := 0, cells := 0, slots := 0, locals := 0 }
set_option maxHeartbeats 4000000 in
set_option maxRecDepth 100000 in
theorem mL_size (l : Launch) (n : Nat) (hn : n < 2147483648) : Met l yL_size wsL_size rmmL_size (va_Pc [.int (nI n)] (fun _ => True)) (kPi (nI (sizeN n))) 0 0 (fun _ => False) := by
  refine k_met0 (cc := cL_size) (maxL := 1) (ret := (some .int)) (own := RL) (by decide) rfl (Nat.le_of_ble_eq_true rfl) rfl ?_
  intro p e s m args below meth c ls H locs hx hb hr hts hown hlocks hml hS hl
  have hl : lv_has ls 1 [(0, .int (nI n))] := hl
  refine lv_iload_n hx hb dL_size_0 rfl (lv_at hl 0 rfl) ?_
  refine lv_iconst (v := 3) hx hb dL_size_1 (by decide) ?_
  refine lv_irem hx hb dL_size_2 (by decide) ?_
  refine k_topi (y := nI (n % 3)) (pk_rem (a := n) (d := 3) (by omega) (by omega) (by omega)) ?_
  refine lv_if_ne (tgt := 18) hx hb dL_size_3 (by decide) (fun c_3 => ?_) (fun c_3 => ?_)
  · have c_3 : ¬ (n % 3) = 0 := fun h => c_3 ((nI_eq (a := (n % 3)) (b := 0) (by omega) (by omega)).mpr h)
    refine lv_iload_n hx hb dL_size_18 rfl (lv_at hl 0 rfl) ?_
    refine lv_iconst (v := 3) hx hb dL_size_19 (by decide) ?_
    refine lv_irem hx hb dL_size_20 (by decide) ?_
    refine k_topi (y := nI (n % 3)) (pk_rem (a := n) (d := 3) (by omega) (by omega) (by omega)) ?_
    refine lv_iconst (v := 1) hx hb dL_size_21 (by decide) ?_
    refine lv_icmp_ne (tgt := 36) hx hb dL_size_22 (by decide) (fun c_22 => ?_) (fun c_22 => ?_)
    · have c_22 : ¬ (n % 3) = 1 := fun h => c_22 ((nI_eq (a := (n % 3)) (b := 1) (by omega) (by omega)).mpr h)
      refine lv_iconst (v := 1) hx hb dL_size_36 (by decide) ?_
      refine lv_iload_n hx hb dL_size_37 rfl (lv_at hl 0 rfl) ?_
      refine lv_iconst (v := 3) hx hb dL_size_38 (by decide) ?_
      refine lv_idiv hx hb dL_size_39 (by decide) ?_
      refine k_topi (y := nI (n / 3)) (pk_div (a := n) (d := 3) (by omega) (by omega) (by omega)) ?_
      refine lv_bipush (v := 60) hx hb dL_size_40 (by decide) ?_
      refine lv_irem hx hb dL_size_42 (by decide) ?_
      refine k_topi (y := nI ((n / 3) % 60)) (pk_rem (a := (n / 3)) (d := 60) (by omega) (by omega) (by omega)) ?_
      refine lv_iadd hx hb dL_size_43 ?_
      refine k_topi (y := nI (1 + ((n / 3) % 60))) (nI_add 1 ((n / 3) % 60)) ?_
      exact kr_i0 (v := nI (1 + ((n / 3) % 60))) hx hb hr hlocks hS (by rw [sizeN]; first | rw [if_pos c_3] | rw [if_neg c_3, if_pos c_22] | rw [if_neg c_3, if_neg c_22]) dL_size_44
    · have c_22 : (n % 3) = 1 := (nI_eq (a := (n % 3)) (b := 1) (by omega) (by omega)).mp c_22
      refine lv_iconst (v := 1) hx hb dL_size_25 (by decide) ?_
      refine lv_iload_n hx hb dL_size_26 rfl (lv_at hl 0 rfl) ?_
      refine lv_iconst (v := 3) hx hb dL_size_27 (by decide) ?_
      refine lv_idiv hx hb dL_size_28 (by decide) ?_
      refine k_topi (y := nI (n / 3)) (pk_div (a := n) (d := 3) (by omega) (by omega) (by omega)) ?_
      refine lv_bipush (v := 10) hx hb dL_size_29 (by decide) ?_
      refine lv_irem hx hb dL_size_31 (by decide) ?_
      refine k_topi (y := nI ((n / 3) % 10)) (pk_rem (a := (n / 3)) (d := 10) (by omega) (by omega) (by omega)) ?_
      refine lv_ishl hx hb dL_size_32 ?_
      refine k_topi (y := nI (2 ^ (n / 3 % 10))) (pw_shl (by omega)) ?_
      refine lv_goto (tgt := 44) hx hb dL_size_33 (by decide) ?_
      exact kr_i0 (v := nI (2 ^ (n / 3 % 10))) hx hb hr hlocks hS (by rw [sizeN]; first | rw [if_pos c_3] | rw [if_neg c_3, if_pos c_22] | rw [if_neg c_3, if_neg c_22]) dL_size_44
  · have c_3 : (n % 3) = 0 := (nI_eq (a := (n % 3)) (b := 0) (by omega) (by omega)).mp c_3
    refine lv_iconst (v := 1) hx hb dL_size_6 (by decide) ?_
    refine lv_iload_n hx hb dL_size_7 rfl (lv_at hl 0 rfl) ?_
    refine lv_iconst (v := 3) hx hb dL_size_8 (by decide) ?_
    refine lv_idiv hx hb dL_size_9 (by decide) ?_
    refine k_topi (y := nI (n / 3)) (pk_div (a := n) (d := 3) (by omega) (by omega) (by omega)) ?_
    refine lv_sipush (v := 2048) hx hb dL_size_10 (by decide) ?_
    refine lv_irem hx hb dL_size_13 (by decide) ?_
    refine k_topi (y := nI ((n / 3) % 2048)) (pk_rem (a := (n / 3)) (d := 2048) (by omega) (by omega) (by omega)) ?_
    refine lv_iadd hx hb dL_size_14 ?_
    refine k_topi (y := nI (1 + ((n / 3) % 2048))) (nI_add 1 ((n / 3) % 2048)) ?_
    refine lv_goto (tgt := 44) hx hb dL_size_15 (by decide) ?_
    exact kr_i0 (v := nI (1 + ((n / 3) % 2048))) hx hb hr hlocks hS (by rw [sizeN]; first | rw [if_pos c_3] | rw [if_neg c_3, if_pos c_22] | rw [if_neg c_3, if_neg c_22]) dL_size_44

abbrev rmmL_seen : Room := { frames := 4, cells := 0, slots := 0, locals := 89 }
set_option maxHeartbeats 4000000 in
set_option maxRecDepth 100000 in
theorem mL_seen (l : Launch) (hst : l.stackTraces = false) (D : va_G) (sz : Nat) (cI : ClassId) (cC : ClassId) (cJ : ClassId) (cZ : ClassId) (cQ : ClassId) (x0 : Nat) (a0 : Nat) (a1 : Nat) (a2 : Nat) (a3 : Nat) (a4 : Nat) (a5 : Nat) (a6 : Nat) (v0 : Nat) (v1 : Nat) (t0 : Nat) (t1 : Nat) (h0 : Nat) (u0 : Nat) (u1 : Nat) (pa : Nat → Nat) (rg : Nat → Option Nat) (z : StV) (nx : Nat) (cnt : Nat) (S : Nat → StV) (wd : Nat → Int64) (hv : Int32) (hk : Int32) (hc : Int32) (hI : oI z nx cnt S) (hrg : rgOK rg pa) : Met l yL_seen wsL_seen rmmL_seen (va_Pc [.ref x0] (oPre D sz (fmB (LB cI cC cJ cZ cQ x0 a0 a1 a2 a3 a4 a5 a6 v0 v1 t0 t1 h0 u0 u1 pa rg z nx cnt S wd hv hk hc) [0, 1, 2, 3, 4, 5, 6, 7]) (kT cI cC cJ cZ cQ))) (oQl D (fun (r9 : Int64) (u9 : OS) => (seenP z) = r9 ∧ z = u9.1 ∧ nx = u9.2.1 ∧ cnt = u9.2.2.1 ∧ S = u9.2.2.2.1) (fun (u9 : OS) => fmB (LB cI cC cJ cZ cQ x0 a0 a1 a2 a3 a4 a5 a6 v0 v1 t0 t1 h0 u0 u1 pa rg u9.1 u9.2.1 u9.2.2.1 u9.2.2.2.1 u9.2.2.2.2.1 u9.2.2.2.2.2.1 u9.2.2.2.2.2.2.1 u9.2.2.2.2.2.2.2) [0, 1, 2, 3, 4, 5, 6, 7]) (va_A (fmB (LB cI cC cJ cZ cQ x0 a0 a1 a2 a3 a4 a5 a6 v0 v1 t0 t1 h0 u0 u1 pa rg z nx cnt S wd hv hk hc) [0, 1, 2, 3, 4, 5, 6, 7]) sz)) 0 0 (va_A (fmB (LB cI cC cJ cZ cQ x0 a0 a1 a2 a3 a4 a5 a6 v0 v1 t0 t1 h0 u0 u1 pa rg z nx cnt S wd hv hk hc) [0, 1, 2, 3, 4, 5, 6, 7]) sz) := by
  refine k_metO (Qf := oQl D (fun (r9 : Int64) (u9 : OS) => (seenP z) = r9 ∧ z = u9.1 ∧ nx = u9.2.1 ∧ cnt = u9.2.2.1 ∧ S = u9.2.2.2.1) (fun (u9 : OS) => fmB (LB cI cC cJ cZ cQ x0 a0 a1 a2 a3 a4 a5 a6 v0 v1 t0 t1 h0 u0 u1 pa rg u9.1 u9.2.1 u9.2.2.1 u9.2.2.2.1 u9.2.2.2.2.1 u9.2.2.2.2.2.1 u9.2.2.2.2.2.2.1 u9.2.2.2.2.2.2.2) [0, 1, 2, 3, 4, 5, 6, 7])) (cc := cL_seen) (maxL := 4) (ret := (some .long)) (own := RL) (by decide) rfl (Nat.le_of_ble_eq_true rfl) rfl ?_
  intro p e s m args below meth c ls A H locs hx hb hr hts hown hlocks hml hsz hP hK hD hA hS hN hE hO hl
  have hl : lv_has ls 4 [(0, .ref x0)] := hl
  obtain ⟨hw1, hwz, hlz⟩ := zI_b hI.1
  obtain ⟨hnx, hcnt, -⟩ := hI.2
  have hff := zI_f hI.1
  have hhf := zI_hf hI.1
  refine lv_ldc2 hx hb hown (hts (Cond.constantLong RL 78 (163)) (List.mem_of_getElem? (i := 1) rfl)) dL_seen_0 ?_
  refine lv_aload_n hx hb dL_seen_3 rfl (lv_at hl 0 rfl) ?_
  refine lq_v (B0 := (LB cI cC cJ cZ cQ x0 a0 a1 a2 a3 a4 a5 a6 v0 v1 t0 t1 h0 u0 u1 pa rg z nx cnt S wd hv hk hc)) (B1 := (LB cI cC cJ cZ cQ x0 a0 a1 a2 a3 a4 a5 a6 v0 v1 t0 t1 h0 u0 u1 pa rg z nx cnt S wd hv hk hc)) (U := [0, 1, 2, 3, 4, 5, 6, 7]) (isC := [0, 1]) (isR := [2, 3, 4, 5, 6, 7]) (As := []) (rest := [.long 163]) ⟨hx, hb, hml, hown, hts⟩ (kX7_voltage l D H.size cI cC cJ cZ cQ x0 v0 t0 h0 u0 a0 a1 a2 a3 a4 a5 a6 z) (cwV 0 hts gL_seen_X7_voltage rfl rfl rfl (by decide +kernel) ⟨Nat.le_of_ble_eq_true rfl, Nat.le_of_ble_eq_true rfl⟩) hP hD hK hS hA hN (by decide) rfl rfl rfl 0 7 rfl rfl rfl rfl hl.1 rfl (Nat.le_of_ble_eq_true rfl) dL_seen_4 ⟨Nat.le_of_ble_eq_true rfl, Nat.le_of_ble_eq_true rfl⟩ (fun H locs hP hD hS => ?_)
  refine lv_i2l hx hb dL_seen_7 rfl ?_
  refine lv_ladd hx hb dL_seen_8 ?_
  refine lv_lstore_n (lv' := [(1, .long (163 + ((z.1 : Int32).toInt64))), (0, .ref x0)]) hx hb dL_seen_9 rfl hl (by decide) rfl (fun ls hl => ?_)
  refine lv_ldc2 hx hb hown (hts (Cond.constantLong RL 83 (31)) (List.mem_of_getElem? (i := 2) rfl)) dL_seen_10 ?_
  refine lv_ldc2 hx hb hown (hts (Cond.constantLong RL 83 (31)) (List.mem_of_getElem? (i := 2) rfl)) dL_seen_13 ?_
  refine lv_ldc2 hx hb hown (hts (Cond.constantLong RL 83 (31)) (List.mem_of_getElem? (i := 2) rfl)) dL_seen_16 ?_
  refine lv_lload_n hx hb dL_seen_19 rfl (lv_at hl 0 rfl) ?_
  refine lv_lmul hx hb dL_seen_20 ?_
  refine lv_aload_n hx hb dL_seen_21 rfl (lv_at hl 1 rfl) ?_
  refine lq_v (B0 := (LB cI cC cJ cZ cQ x0 a0 a1 a2 a3 a4 a5 a6 v0 v1 t0 t1 h0 u0 u1 pa rg z nx cnt S wd hv hk hc)) (B1 := (LB cI cC cJ cZ cQ x0 a0 a1 a2 a3 a4 a5 a6 v0 v1 t0 t1 h0 u0 u1 pa rg z nx cnt S wd hv hk hc)) (U := [0, 1, 2, 3, 4, 5, 6, 7]) (isC := [0, 1]) (isR := [2, 3, 4, 5, 6, 7]) (As := []) (rest := [.long (31 * (163 + ((z.1 : Int32).toInt64))), .long 31, .long 31]) ⟨hx, hb, hml, hown, hts⟩ (kX7_weights l D H.size cI cC cJ cZ cQ x0 v0 t0 h0 u0 a0 a1 a2 a3 a4 a5 a6 z) (cwV 0 hts gL_seen_X7_weights rfl rfl rfl (by decide +kernel) ⟨Nat.le_of_ble_eq_true rfl, Nat.le_of_ble_eq_true rfl⟩) hP hD hK hS hA hN (by decide) rfl rfl rfl 0 7 rfl rfl rfl rfl hl.1 rfl (Nat.le_of_ble_eq_true rfl) dL_seen_22 ⟨Nat.le_of_ble_eq_true rfl, Nat.le_of_ble_eq_true rfl⟩ (fun H locs hP hD hS => ?_)
  refine lv_i2l hx hb dL_seen_25 rfl ?_
  refine lv_ladd hx hb dL_seen_26 ?_
  refine lv_lmul hx hb dL_seen_27 ?_
  refine lv_aload_n hx hb dL_seen_28 rfl (lv_at hl 1 rfl) ?_
  refine lq_v (B0 := (LB cI cC cJ cZ cQ x0 a0 a1 a2 a3 a4 a5 a6 v0 v1 t0 t1 h0 u0 u1 pa rg z nx cnt S wd hv hk hc)) (B1 := (LB cI cC cJ cZ cQ x0 a0 a1 a2 a3 a4 a5 a6 v0 v1 t0 t1 h0 u0 u1 pa rg z nx cnt S wd hv hk hc)) (U := [0, 1, 2, 3, 4, 5, 6, 7]) (isC := [0, 1]) (isR := [2, 3, 4, 5, 6, 7]) (As := []) (rest := [.long (31 * ((31 * (163 + ((z.1 : Int32).toInt64))) + ((nI z.2.2.2.2.2.1 : Int32).toInt64))), .long 31]) ⟨hx, hb, hml, hown, hts⟩ (kX7_total l D H.size cI cC cJ cZ cQ x0 v0 t0 h0 u0 a0 a1 a2 a3 a4 a5 a6 z (by first | assumption | omega)) (cwV 0 hts gL_seen_X7_total rfl rfl rfl (by decide +kernel) ⟨Nat.le_of_ble_eq_true rfl, Nat.le_of_ble_eq_true rfl⟩) hP hD hK hS hA hN (by decide) rfl rfl rfl 0 7 rfl rfl rfl rfl hl.1 rfl (Nat.le_of_ble_eq_true rfl) dL_seen_29 ⟨Nat.le_of_ble_eq_true rfl, Nat.le_of_ble_eq_true rfl⟩ (fun H locs hP hD hS => ?_)
  refine lv_i2l hx hb dL_seen_32 rfl ?_
  refine lv_ladd hx hb dL_seen_33 ?_
  refine lv_lmul hx hb dL_seen_34 ?_
  refine lv_aload_n hx hb dL_seen_35 rfl (lv_at hl 1 rfl) ?_
  refine lq_v (B0 := (LB cI cC cJ cZ cQ x0 a0 a1 a2 a3 a4 a5 a6 v0 v1 t0 t1 h0 u0 u1 pa rg z nx cnt S wd hv hk hc)) (B1 := (LB cI cC cJ cZ cQ x0 a0 a1 a2 a3 a4 a5 a6 v0 v1 t0 t1 h0 u0 u1 pa rg z nx cnt S wd hv hk hc)) (U := [0, 1, 2, 3, 4, 5, 6, 7]) (isC := [0, 1]) (isR := [2, 3, 4, 5, 6, 7]) (As := []) (rest := [.long (31 * ((31 * ((31 * (163 + ((z.1 : Int32).toInt64))) + ((nI z.2.2.2.2.2.1 : Int32).toInt64))) + ((sumW z.2.2.2.2.2.2.2.1 z.2.2.2.2.2.1 : Int32).toInt64)))]) ⟨hx, hb, hml, hown, hts⟩ (kX7_logged l D H.size cI cC cJ cZ cQ x0 v0 t0 h0 u0 a0 a1 a2 a3 a4 a5 a6 z) (cwV 0 hts gL_seen_X7_logged rfl rfl rfl (by decide +kernel) ⟨Nat.le_of_ble_eq_true rfl, Nat.le_of_ble_eq_true rfl⟩) hP hD hK hS hA hN (by decide) rfl rfl rfl 0 7 rfl rfl rfl rfl hl.1 rfl (Nat.le_of_ble_eq_true rfl) dL_seen_36 ⟨Nat.le_of_ble_eq_true rfl, Nat.le_of_ble_eq_true rfl⟩ (fun H locs hP hD hS => ?_)
  refine lv_i2l hx hb dL_seen_39 rfl ?_
  refine lv_ladd hx hb dL_seen_40 ?_
  refine lv_lstore_n (lv' := [(1, .long ((31 * ((31 * ((31 * (163 + ((z.1 : Int32).toInt64))) + ((nI z.2.2.2.2.2.1 : Int32).toInt64))) + ((sumW z.2.2.2.2.2.2.2.1 z.2.2.2.2.2.1 : Int32).toInt64))) + ((nI z.2.2.2.2.2.2.1 : Int32).toInt64))), (0, .ref x0)]) hx hb dL_seen_41 rfl hl (by decide) rfl (fun ls hl => ?_)
  refine lv_iconst (v := 0) hx hb dL_seen_42 (by decide) ?_
  refine lv_istore_n (lv' := [(3, .int 0), (1, .long ((31 * ((31 * ((31 * (163 + ((z.1 : Int32).toInt64))) + ((nI z.2.2.2.2.2.1 : Int32).toInt64))) + ((sumW z.2.2.2.2.2.2.2.1 z.2.2.2.2.2.1 : Int32).toInt64))) + ((nI z.2.2.2.2.2.2.1 : Int32).toInt64))), (0, .ref x0)]) hx hb dL_seen_43 rfl hl (by decide) rfl (fun ls hl => ?_)
  have J44 : ∀ (fuel : Nat) (k : Nat) (hj0 : k ≤ z.2.2.2.2.2.1) (hm : z.2.2.2.2.2.1 - k < fuel) (H : Heap) (locs : List Loc) (hP : va_P D vwCl (fmB (LB cI cC cJ cZ cQ x0 a0 a1 a2 a3 a4 a5 a6 v0 v1 t0 t1 h0 u0 u1 pa rg z nx cnt S wd hv hk hc) [0, 1, 2, 3, 4, 5, 6, 7]) H) (hD : va_D A (fmB (LB cI cC cJ cZ cQ x0 a0 a1 a2 a3 a4 a5 a6 v0 v1 t0 t1 h0 u0 u1 pa rg z nx cnt S wd hv hk hc) [0, 1, 2, 3, 4, 5, 6, 7])) (hS : va_S A s.heap H locs) (ls : Array Slot) (hl : lv_has ls 4 [(3, .int (nI k)), (1, .long (seW z.2.2.2.2.2.2.2.1 (31 * (31 * (31 * (163 + (z.1 : Int32).toInt64) + (nI z.2.2.2.2.2.1 : Int32).toInt64) + (sumW z.2.2.2.2.2.2.2.1 z.2.2.2.2.2.1 : Int32).toInt64) + (nI z.2.2.2.2.2.2.1 : Int32).toInt64) k)), (0, .ref x0)]), W p l e rmmL_seen s m args below meth c H locs 0 0 (MQ below (oQl D (fun (r9 : Int64) (u9 : OS) => (seenP z) = r9 ∧ z = u9.1 ∧ nx = u9.2.1 ∧ cnt = u9.2.2.1 ∧ S = u9.2.2.2.1) (fun (u9 : OS) => fmB (LB cI cC cJ cZ cQ x0 a0 a1 a2 a3 a4 a5 a6 v0 v1 t0 t1 h0 u0 u1 pa rg u9.1 u9.2.1 u9.2.2.1 u9.2.2.2.1 u9.2.2.2.2.1 u9.2.2.2.2.2.1 u9.2.2.2.2.2.2.1 u9.2.2.2.2.2.2.2) [0, 1, 2, 3, 4, 5, 6, 7]) A) args s 0 0 A) (F0 m 44 ls []) := by
    intro fuel
    induction fuel with
    | zero => intro k hj0 hm; exact absurd hm (Nat.not_lt_zero _)
    | succ fuel ih44 =>
      intro k hj0 hm H locs hP hD hS ls hl
      refine lv_iload_n hx hb dL_seen_44 rfl (lv_at hl 0 rfl) ?_
      refine lv_aload_n hx hb dL_seen_45 rfl (lv_at hl 2 rfl) ?_
      refine lq_v (B0 := (LB cI cC cJ cZ cQ x0 a0 a1 a2 a3 a4 a5 a6 v0 v1 t0 t1 h0 u0 u1 pa rg z nx cnt S wd hv hk hc)) (B1 := (LB cI cC cJ cZ cQ x0 a0 a1 a2 a3 a4 a5 a6 v0 v1 t0 t1 h0 u0 u1 pa rg z nx cnt S wd hv hk hc)) (U := [0, 1, 2, 3, 4, 5, 6, 7]) (isC := [0, 1]) (isR := [2, 3, 4, 5, 6, 7]) (As := []) (rest := [.int (nI k)]) ⟨hx, hb, hml, hown, hts⟩ (kX7_weights l D H.size cI cC cJ cZ cQ x0 v0 t0 h0 u0 a0 a1 a2 a3 a4 a5 a6 z) (cwV 0 hts gL_seen_X7_weights rfl rfl rfl (by decide +kernel) ⟨Nat.le_of_ble_eq_true rfl, Nat.le_of_ble_eq_true rfl⟩) hP hD hK hS hA hN (by decide) rfl rfl rfl 0 7 rfl rfl rfl rfl hl.1 rfl (Nat.le_of_ble_eq_true rfl) dL_seen_46 ⟨Nat.le_of_ble_eq_true rfl, Nat.le_of_ble_eq_true rfl⟩ (fun H locs hP hD hS => ?_)
      refine lv_icmp_ge (tgt := 72) hx hb dL_seen_49 (by decide) (fun c_49 => ?_) (fun c_49 => ?_)
      · have c_49 : z.2.2.2.2.2.1 ≤ k := (nI_leI (a := z.2.2.2.2.2.1) (b := k) (by omega) (by omega)).mp c_49
        have hk9 : k = z.2.2.2.2.2.1 := by omega
        rw [hk9] at hl
        refine lv_iconst (v := 0) hx hb dL_seen_72 (by decide) ?_
        refine lv_istore_n (lv' := [(3, .int 0), (1, .long (seW z.2.2.2.2.2.2.2.1 (31 * (31 * (31 * (163 + (z.1 : Int32).toInt64) + (nI z.2.2.2.2.2.1 : Int32).toInt64) + (sumW z.2.2.2.2.2.2.2.1 z.2.2.2.2.2.1 : Int32).toInt64) + (nI z.2.2.2.2.2.2.1 : Int32).toInt64) z.2.2.2.2.2.1)), (0, .ref x0)]) hx hb dL_seen_73 rfl hl (by decide) rfl (fun ls hl => ?_)
        have J74 : ∀ (fuel : Nat) (k2 : Nat) (hk2 : k2 ≤ z.2.2.2.2.2.2.1) (hm : z.2.2.2.2.2.2.1 - k2 < fuel) (H : Heap) (locs : List Loc) (hP : va_P D vwCl (fmB (LB cI cC cJ cZ cQ x0 a0 a1 a2 a3 a4 a5 a6 v0 v1 t0 t1 h0 u0 u1 pa rg z nx cnt S wd hv hk hc) [0, 1, 2, 3, 4, 5, 6, 7]) H) (hD : va_D A (fmB (LB cI cC cJ cZ cQ x0 a0 a1 a2 a3 a4 a5 a6 v0 v1 t0 t1 h0 u0 u1 pa rg z nx cnt S wd hv hk hc) [0, 1, 2, 3, 4, 5, 6, 7])) (hS : va_S A s.heap H locs) (ls : Array Slot) (hl : lv_has ls 4 [(3, .int (nI k2)), (1, .long (seL z.2.2.2.2.2.2.2.2.1 z.2.2.2.2.2.2.2.2.2.1 z.2.2.2.2.2.2.2.2.2.2 (seW z.2.2.2.2.2.2.2.1 (31 * (31 * (31 * (163 + (z.1 : Int32).toInt64) + (nI z.2.2.2.2.2.1 : Int32).toInt64) + (sumW z.2.2.2.2.2.2.2.1 z.2.2.2.2.2.1 : Int32).toInt64) + (nI z.2.2.2.2.2.2.1 : Int32).toInt64) z.2.2.2.2.2.1) k2)), (0, .ref x0)]), W p l e rmmL_seen s m args below meth c H locs 0 0 (MQ below (oQl D (fun (r9 : Int64) (u9 : OS) => (seenP z) = r9 ∧ z = u9.1 ∧ nx = u9.2.1 ∧ cnt = u9.2.2.1 ∧ S = u9.2.2.2.1) (fun (u9 : OS) => fmB (LB cI cC cJ cZ cQ x0 a0 a1 a2 a3 a4 a5 a6 v0 v1 t0 t1 h0 u0 u1 pa rg u9.1 u9.2.1 u9.2.2.1 u9.2.2.2.1 u9.2.2.2.2.1 u9.2.2.2.2.2.1 u9.2.2.2.2.2.2.1 u9.2.2.2.2.2.2.2) [0, 1, 2, 3, 4, 5, 6, 7]) A) args s 0 0 A) (F0 m 74 ls []) := by
          intro fuel
          induction fuel with
          | zero => intro k2 hk2 hm; exact absurd hm (Nat.not_lt_zero _)
          | succ fuel ih74 =>
            intro k2 hk2 hm H locs hP hD hS ls hl
            refine lv_iload_n hx hb dL_seen_74 rfl (lv_at hl 0 rfl) ?_
            refine lv_aload_n hx hb dL_seen_75 rfl (lv_at hl 2 rfl) ?_
            refine lq_v (B0 := (LB cI cC cJ cZ cQ x0 a0 a1 a2 a3 a4 a5 a6 v0 v1 t0 t1 h0 u0 u1 pa rg z nx cnt S wd hv hk hc)) (B1 := (LB cI cC cJ cZ cQ x0 a0 a1 a2 a3 a4 a5 a6 v0 v1 t0 t1 h0 u0 u1 pa rg z nx cnt S wd hv hk hc)) (U := [0, 1, 2, 3, 4, 5, 6, 7]) (isC := [0, 1]) (isR := [2, 3, 4, 5, 6, 7]) (As := []) (rest := [.int (nI k2)]) ⟨hx, hb, hml, hown, hts⟩ (kX7_logged l D H.size cI cC cJ cZ cQ x0 v0 t0 h0 u0 a0 a1 a2 a3 a4 a5 a6 z) (cwV 0 hts gL_seen_X7_logged rfl rfl rfl (by decide +kernel) ⟨Nat.le_of_ble_eq_true rfl, Nat.le_of_ble_eq_true rfl⟩) hP hD hK hS hA hN (by decide) rfl rfl rfl 0 7 rfl rfl rfl rfl hl.1 rfl (Nat.le_of_ble_eq_true rfl) dL_seen_76 ⟨Nat.le_of_ble_eq_true rfl, Nat.le_of_ble_eq_true rfl⟩ (fun H locs hP hD hS => ?_)
            refine lv_icmp_ge (tgt := 126) hx hb dL_seen_79 (by decide) (fun c_79 => ?_) (fun c_79 => ?_)
            · have c_79 : z.2.2.2.2.2.2.1 ≤ k2 := (nI_leI (a := z.2.2.2.2.2.2.1) (b := k2) (by omega) (by omega)).mp c_79
              have hk8 : k2 = z.2.2.2.2.2.2.1 := by omega
              rw [hk8] at hl
              refine lv_ldc2 hx hb hown (hts (Cond.constantLong RL 83 (31)) (List.mem_of_getElem? (i := 2) rfl)) dL_seen_126 ?_
              refine lv_ldc2 hx hb hown (hts (Cond.constantLong RL 83 (31)) (List.mem_of_getElem? (i := 2) rfl)) dL_seen_129 ?_
              refine lv_lload_n hx hb dL_seen_132 rfl (lv_at hl 1 rfl) ?_
              refine lv_lmul hx hb dL_seen_133 ?_
              refine lv_aload_n hx hb dL_seen_134 rfl (lv_at hl 2 rfl) ?_
              refine lq_v (B0 := (LB cI cC cJ cZ cQ x0 a0 a1 a2 a3 a4 a5 a6 v0 v1 t0 t1 h0 u0 u1 pa rg z nx cnt S wd hv hk hc)) (B1 := (LB cI cC cJ cZ cQ x0 a0 a1 a2 a3 a4 a5 a6 v0 v1 t0 t1 h0 u0 u1 pa rg z nx cnt S wd ((wgS z.2.2.2.2.2.2.2.1 z.2.2.1 z.2.2.2.1 z.2.2.2.2.1 z.1 z.2.2.2.2.2.1).1) ((wgS z.2.2.2.2.2.2.2.1 z.2.2.1 z.2.2.2.1 z.2.2.2.2.1 z.1 z.2.2.2.2.2.1).2.1) ((wgS z.2.2.2.2.2.2.2.1 z.2.2.1 z.2.2.2.1 z.2.2.2.2.1 z.1 z.2.2.2.2.2.1).2.2))) (U := [0, 1, 2, 3, 4, 5, 6, 7]) (isC := [0, 1, 6]) (isR := [2, 3, 4, 5, 7]) (As := []) (rest := [.long (31 * (seL z.2.2.2.2.2.2.2.2.1 z.2.2.2.2.2.2.2.2.2.1 z.2.2.2.2.2.2.2.2.2.2 (seW z.2.2.2.2.2.2.2.1 (31 * (31 * (31 * (163 + (z.1 : Int32).toInt64) + (nI z.2.2.2.2.2.1 : Int32).toInt64) + (sumW z.2.2.2.2.2.2.2.1 z.2.2.2.2.2.1 : Int32).toInt64) + (nI z.2.2.2.2.2.2.1 : Int32).toInt64) z.2.2.2.2.2.1) z.2.2.2.2.2.2.1)), .long 31]) ⟨hx, hb, hml, hown, hts⟩ (kX7_nextCode l D H.size cI cC cJ cZ cQ x0 v0 t0 h0 u0 a0 a1 a2 a3 a4 a5 a6 z hv hk hc (by first | assumption | omega)) (cwV 0 hts gL_seen_X7_nextCode rfl rfl rfl (by decide +kernel) ⟨Nat.le_of_ble_eq_true rfl, Nat.le_of_ble_eq_true rfl⟩) hP hD hK hS hA hN (by decide) rfl rfl rfl 0 7 rfl rfl rfl rfl hl.1 rfl (Nat.le_of_ble_eq_true rfl) dL_seen_135 ⟨Nat.le_of_ble_eq_true rfl, Nat.le_of_ble_eq_true rfl⟩ (fun H locs hP hD hS => ?_)
              refine lv_i2l hx hb dL_seen_138 rfl ?_
              refine lv_ladd hx hb dL_seen_139 ?_
              refine lv_lmul hx hb dL_seen_140 ?_
              refine lv_aload_n hx hb dL_seen_141 rfl (lv_at hl 2 rfl) ?_
              refine lv_ldc hx hb hown (hts (Cond.constant RL 103 (40000)) (List.mem_of_getElem? (i := 3) rfl)) dL_seen_142 ?_
              refine lq_v (B0 := (LB cI cC cJ cZ cQ x0 a0 a1 a2 a3 a4 a5 a6 v0 v1 t0 t1 h0 u0 u1 pa rg z nx cnt S wd ((wgS z.2.2.2.2.2.2.2.1 z.2.2.1 z.2.2.2.1 z.2.2.2.2.1 z.1 z.2.2.2.2.2.1).1) ((wgS z.2.2.2.2.2.2.2.1 z.2.2.1 z.2.2.2.1 z.2.2.2.2.1 z.1 z.2.2.2.2.2.1).2.1) ((wgS z.2.2.2.2.2.2.2.1 z.2.2.1 z.2.2.2.1 z.2.2.2.2.1 z.1 z.2.2.2.2.2.1).2.2))) (B1 := (LB cI cC cJ cZ cQ x0 a0 a1 a2 a3 a4 a5 a6 v0 v1 t0 t1 h0 u0 u1 pa rg z nx cnt S wd ((wgS z.2.2.2.2.2.2.2.1 z.2.2.1 z.2.2.2.1 z.2.2.2.2.1 z.1 z.2.2.2.2.2.1).1) ((wgS z.2.2.2.2.2.2.2.1 z.2.2.1 z.2.2.2.1 z.2.2.2.2.1 z.1 z.2.2.2.2.2.1).2.1) ((wgS z.2.2.2.2.2.2.2.1 z.2.2.1 z.2.2.2.1 z.2.2.2.2.1 z.1 z.2.2.2.2.2.1).2.2))) (U := [0, 1, 2, 3, 4, 5, 6, 7]) (isC := [0, 1]) (isR := [2, 3, 4, 5, 6, 7]) (As := [.int 40000]) (rest := [.long (31 * ((31 * (seL z.2.2.2.2.2.2.2.2.1 z.2.2.2.2.2.2.2.2.2.1 z.2.2.2.2.2.2.2.2.2.2 (seW z.2.2.2.2.2.2.2.1 (31 * (31 * (31 * (163 + (z.1 : Int32).toInt64) + (nI z.2.2.2.2.2.1 : Int32).toInt64) + (sumW z.2.2.2.2.2.2.2.1 z.2.2.2.2.2.1 : Int32).toInt64) + (nI z.2.2.2.2.2.2.1 : Int32).toInt64) z.2.2.2.2.2.1) z.2.2.2.2.2.2.1)) + (((wgS z.2.2.2.2.2.2.2.1 z.2.2.1 z.2.2.2.1 z.2.2.2.2.1 z.1 z.2.2.2.2.2.1).2.2 : Int32).toInt64)))]) ⟨hx, hb, hml, hown, hts⟩ (kX7_ticksToSettle l D H.size cI cC cJ cZ cQ x0 v0 t0 h0 u0 a0 a1 a2 a3 a4 a5 a6 z 40000 (by decide) (by decide)) (cwV 1 hts gL_seen_X7_ticksToSettle rfl rfl rfl (by decide +kernel) ⟨Nat.le_of_ble_eq_true rfl, Nat.le_of_ble_eq_true rfl⟩) hP hD hK hS hA hN (by decide) rfl rfl rfl 0 7 rfl rfl rfl rfl hl.1 rfl (Nat.le_of_ble_eq_true rfl) dL_seen_144 ⟨Nat.le_of_ble_eq_true rfl, Nat.le_of_ble_eq_true rfl⟩ (fun H locs hP hD hS => ?_)
              refine lv_i2l hx hb dL_seen_147 rfl ?_
              refine lv_ladd hx hb dL_seen_148 ?_
              exact kr_ol (u := (z, nx, cnt, S, wd, (wgS z.2.2.2.2.2.2.2.1 z.2.2.1 z.2.2.2.1 z.2.2.2.2.1 z.1 z.2.2.2.2.2.1).1, (wgS z.2.2.2.2.2.2.2.1 z.2.2.1 z.2.2.2.1 z.2.2.2.2.1 z.1 z.2.2.2.2.2.1).2.1, (wgS z.2.2.2.2.2.2.2.1 z.2.2.1 z.2.2.2.1 z.2.2.2.2.1 z.1 z.2.2.2.2.2.1).2.2)) (v := (31 * ((31 * (seL z.2.2.2.2.2.2.2.2.1 z.2.2.2.2.2.2.2.2.2.1 z.2.2.2.2.2.2.2.2.2.2 (seW z.2.2.2.2.2.2.2.1 (31 * (31 * (31 * (163 + (z.1 : Int32).toInt64) + (nI z.2.2.2.2.2.1 : Int32).toInt64) + (sumW z.2.2.2.2.2.2.2.1 z.2.2.2.2.2.1 : Int32).toInt64) + (nI z.2.2.2.2.2.2.1 : Int32).toInt64) z.2.2.2.2.2.1) z.2.2.2.2.2.2.1)) + (((wgS z.2.2.2.2.2.2.2.1 z.2.2.1 z.2.2.2.1 z.2.2.2.2.1 z.1 z.2.2.2.2.2.1).2.2 : Int32).toInt64))) + ((nI (tsGo 40000 z.2.1 65536 0 z.1) : Int32).toInt64)) hx hb hr hlocks hP hD hS ⟨rfl, rfl, rfl, rfl, rfl⟩ dL_seen_149
            · have c_79 : ¬ z.2.2.2.2.2.2.1 ≤ k2 := fun h => c_79 ((nI_leI (a := z.2.2.2.2.2.2.1) (b := k2) (by omega) (by omega)).mpr h)
              refine lv_ldc2 hx hb hown (hts (Cond.constantLong RL 83 (31)) (List.mem_of_getElem? (i := 2) rfl)) dL_seen_82 ?_
              refine lv_ldc2 hx hb hown (hts (Cond.constantLong RL 83 (31)) (List.mem_of_getElem? (i := 2) rfl)) dL_seen_85 ?_
              refine lv_ldc2 hx hb hown (hts (Cond.constantLong RL 83 (31)) (List.mem_of_getElem? (i := 2) rfl)) dL_seen_88 ?_
              refine lv_lload_n hx hb dL_seen_91 rfl (lv_at hl 1 rfl) ?_
              refine lv_lmul hx hb dL_seen_92 ?_
              refine lv_aload_n hx hb dL_seen_93 rfl (lv_at hl 2 rfl) ?_
              refine lv_iconst (v := 1) hx hb dL_seen_94 (by decide) ?_
              refine lv_iload_n hx hb dL_seen_95 rfl (lv_at hl 0 rfl) ?_
              refine lq_s (B0 := (LB cI cC cJ cZ cQ x0 a0 a1 a2 a3 a4 a5 a6 v0 v1 t0 t1 h0 u0 u1 pa rg z nx cnt S wd hv hk hc)) (B1 := (LB cI cC cJ cZ cQ x0 a0 a1 a2 a3 a4 a5 a6 v0 v1 t0 t1 h0 u0 u1 pa rg z nx cnt S wd hv hk hc)) (U := [0, 1, 2, 3, 4, 5, 6, 7]) (isC := [0, 1]) (isR := [2, 3, 4, 5, 6, 7]) (As := [.ref x0, .int 1, .int (nI k2)]) (rest := [.long (31 * (seL z.2.2.2.2.2.2.2.2.1 z.2.2.2.2.2.2.2.2.2.1 z.2.2.2.2.2.2.2.2.2.2 (seW z.2.2.2.2.2.2.2.1 (31 * (31 * (31 * (163 + (z.1 : Int32).toInt64) + (nI z.2.2.2.2.2.1 : Int32).toInt64) + (sumW z.2.2.2.2.2.2.2.1 z.2.2.2.2.2.1 : Int32).toInt64) + (nI z.2.2.2.2.2.2.1 : Int32).toInt64) z.2.2.2.2.2.1) k2)), .long 31, .long 31]) ⟨hx, hb, hml, hown, hts⟩ (kL_code_ok l D H.size cI cC cJ cZ cQ x0 v0 t0 h0 u0 a0 a1 a2 a3 a4 a5 a6 z k2 (by first | assumption | omega) (by first | assumption | omega)) (vx_cwSW 3 hts gL_seen_L_ask rfl rfl rfl (by decide +kernel) ⟨Nat.le_of_ble_eq_true rfl, Nat.le_of_ble_eq_true rfl⟩) hP hD hK hS hA hN (by decide) rfl rfl rfl rfl hl.1 rfl (Nat.le_of_ble_eq_true rfl) dL_seen_96 ⟨Nat.le_of_ble_eq_true rfl, Nat.le_of_ble_eq_true rfl⟩ (fun H locs hP hD hS => ?_)
              refine lv_i2l hx hb dL_seen_99 rfl ?_
              refine lv_ladd hx hb dL_seen_100 ?_
              refine lv_lmul hx hb dL_seen_101 ?_
              refine lv_aload_n hx hb dL_seen_102 rfl (lv_at hl 2 rfl) ?_
              refine lv_iconst (v := 2) hx hb dL_seen_103 (by decide) ?_
              refine lv_iload_n hx hb dL_seen_104 rfl (lv_at hl 0 rfl) ?_
              refine lq_s (B0 := (LB cI cC cJ cZ cQ x0 a0 a1 a2 a3 a4 a5 a6 v0 v1 t0 t1 h0 u0 u1 pa rg z nx cnt S wd hv hk hc)) (B1 := (LB cI cC cJ cZ cQ x0 a0 a1 a2 a3 a4 a5 a6 v0 v1 t0 t1 h0 u0 u1 pa rg z nx cnt S wd hv hk hc)) (U := [0, 1, 2, 3, 4, 5, 6, 7]) (isC := [0, 1]) (isR := [2, 3, 4, 5, 6, 7]) (As := [.ref x0, .int 2, .int (nI k2)]) (rest := [.long (31 * ((31 * (seL z.2.2.2.2.2.2.2.2.1 z.2.2.2.2.2.2.2.2.2.1 z.2.2.2.2.2.2.2.2.2.2 (seW z.2.2.2.2.2.2.2.1 (31 * (31 * (31 * (163 + (z.1 : Int32).toInt64) + (nI z.2.2.2.2.2.1 : Int32).toInt64) + (sumW z.2.2.2.2.2.2.2.1 z.2.2.2.2.2.1 : Int32).toInt64) + (nI z.2.2.2.2.2.2.1 : Int32).toInt64) z.2.2.2.2.2.1) k2)) + ((z.2.2.2.2.2.2.2.2.2.2 k2 : Int32).toInt64))), .long 31]) ⟨hx, hb, hml, hown, hts⟩ (kL_kept_ok l D H.size cI cC cJ cZ cQ x0 v0 t0 h0 u0 a0 a1 a2 a3 a4 a5 a6 z k2 (by first | assumption | omega) (by first | assumption | omega)) (vx_cwSW 3 hts gL_seen_L_ask rfl rfl rfl (by decide +kernel) ⟨Nat.le_of_ble_eq_true rfl, Nat.le_of_ble_eq_true rfl⟩) hP hD hK hS hA hN (by decide) rfl rfl rfl rfl hl.1 rfl (Nat.le_of_ble_eq_true rfl) dL_seen_105 ⟨Nat.le_of_ble_eq_true rfl, Nat.le_of_ble_eq_true rfl⟩ (fun H locs hP hD hS => ?_)
              refine lv_i2l hx hb dL_seen_108 rfl ?_
              refine lv_ladd hx hb dL_seen_109 ?_
              refine lv_lmul hx hb dL_seen_110 ?_
              refine lv_aload_n hx hb dL_seen_111 rfl (lv_at hl 2 rfl) ?_
              refine lv_iconst (v := 3) hx hb dL_seen_112 (by decide) ?_
              refine lv_iload_n hx hb dL_seen_113 rfl (lv_at hl 0 rfl) ?_
              refine lq_s (B0 := (LB cI cC cJ cZ cQ x0 a0 a1 a2 a3 a4 a5 a6 v0 v1 t0 t1 h0 u0 u1 pa rg z nx cnt S wd hv hk hc)) (B1 := (LB cI cC cJ cZ cQ x0 a0 a1 a2 a3 a4 a5 a6 v0 v1 t0 t1 h0 u0 u1 pa rg z nx cnt S wd hv hk hc)) (U := [0, 1, 2, 3, 4, 5, 6, 7]) (isC := [0, 1]) (isR := [2, 3, 4, 5, 6, 7]) (As := [.ref x0, .int 3, .int (nI k2)]) (rest := [.long (31 * ((31 * ((31 * (seL z.2.2.2.2.2.2.2.2.1 z.2.2.2.2.2.2.2.2.2.1 z.2.2.2.2.2.2.2.2.2.2 (seW z.2.2.2.2.2.2.2.1 (31 * (31 * (31 * (163 + (z.1 : Int32).toInt64) + (nI z.2.2.2.2.2.1 : Int32).toInt64) + (sumW z.2.2.2.2.2.2.2.1 z.2.2.2.2.2.1 : Int32).toInt64) + (nI z.2.2.2.2.2.2.1 : Int32).toInt64) z.2.2.2.2.2.1) k2)) + ((z.2.2.2.2.2.2.2.2.2.2 k2 : Int32).toInt64))) + ((z.2.2.2.2.2.2.2.2.2.1 k2 : Int32).toInt64)))]) ⟨hx, hb, hml, hown, hts⟩ (kL_error_ok l D H.size cI cC cJ cZ cQ x0 v0 t0 h0 u0 a0 a1 a2 a3 a4 a5 a6 z k2 (by first | assumption | omega) (by first | assumption | omega)) (vx_cwSW 3 hts gL_seen_L_ask rfl rfl rfl (by decide +kernel) ⟨Nat.le_of_ble_eq_true rfl, Nat.le_of_ble_eq_true rfl⟩) hP hD hK hS hA hN (by decide) rfl rfl rfl rfl hl.1 rfl (Nat.le_of_ble_eq_true rfl) dL_seen_114 ⟨Nat.le_of_ble_eq_true rfl, Nat.le_of_ble_eq_true rfl⟩ (fun H locs hP hD hS => ?_)
              refine lv_i2l hx hb dL_seen_117 rfl ?_
              refine lv_ladd hx hb dL_seen_118 ?_
              refine lv_lstore_n (lv' := [(1, .long ((31 * ((31 * ((31 * (seL z.2.2.2.2.2.2.2.2.1 z.2.2.2.2.2.2.2.2.2.1 z.2.2.2.2.2.2.2.2.2.2 (seW z.2.2.2.2.2.2.2.1 (31 * (31 * (31 * (163 + (z.1 : Int32).toInt64) + (nI z.2.2.2.2.2.1 : Int32).toInt64) + (sumW z.2.2.2.2.2.2.2.1 z.2.2.2.2.2.1 : Int32).toInt64) + (nI z.2.2.2.2.2.2.1 : Int32).toInt64) z.2.2.2.2.2.1) k2)) + ((z.2.2.2.2.2.2.2.2.2.2 k2 : Int32).toInt64))) + ((z.2.2.2.2.2.2.2.2.2.1 k2 : Int32).toInt64))) + ((16 * z.2.2.2.2.2.2.2.2.2.2 k2 - z.2.2.2.2.2.2.2.2.1 k2 : Int32).toInt64))), (3, .int (nI k2)), (0, .ref x0)]) hx hb dL_seen_119 rfl hl (by decide) rfl (fun ls hl => ?_)
              refine lv_iinc (v := nI (k2 + 1)) (lv' := [(3, .int (nI (k2 + 1))), (1, .long ((31 * ((31 * ((31 * (seL z.2.2.2.2.2.2.2.2.1 z.2.2.2.2.2.2.2.2.2.1 z.2.2.2.2.2.2.2.2.2.2 (seW z.2.2.2.2.2.2.2.1 (31 * (31 * (31 * (163 + (z.1 : Int32).toInt64) + (nI z.2.2.2.2.2.1 : Int32).toInt64) + (sumW z.2.2.2.2.2.2.2.1 z.2.2.2.2.2.1 : Int32).toInt64) + (nI z.2.2.2.2.2.2.1 : Int32).toInt64) z.2.2.2.2.2.1) k2)) + ((z.2.2.2.2.2.2.2.2.2.2 k2 : Int32).toInt64))) + ((z.2.2.2.2.2.2.2.2.2.1 k2 : Int32).toInt64))) + ((16 * z.2.2.2.2.2.2.2.2.2.2 k2 - z.2.2.2.2.2.2.2.2.1 k2 : Int32).toInt64))), (0, .ref x0)]) hx hb dL_seen_120 hl (k := 1) rfl (by exact k_inc k2) (by decide) rfl (fun ls hl => ?_)
              refine lv_goto (tgt := 74) hx hb dL_seen_123 (by decide) ?_
              exact ih74 (k2 + 1) (by first | assumption | omega) (by omega) _ _ hP hD hS _ (lv_sub hl [0, 1, 2] rfl)
        exact J74 (z.2.2.2.2.2.2.1 - 0 + 1) 0 (by first | assumption | omega) (Nat.lt_succ_self _) _ _ hP hD hS _ (lv_sub hl [0, 1, 2] rfl)
      · have c_49 : ¬ z.2.2.2.2.2.1 ≤ k := fun h => c_49 ((nI_leI (a := z.2.2.2.2.2.1) (b := k) (by omega) (by omega)).mpr h)
        refine lv_ldc2 hx hb hown (hts (Cond.constantLong RL 83 (31)) (List.mem_of_getElem? (i := 2) rfl)) dL_seen_52 ?_
        refine lv_lload_n hx hb dL_seen_55 rfl (lv_at hl 1 rfl) ?_
        refine lv_lmul hx hb dL_seen_56 ?_
        refine lv_aload_n hx hb dL_seen_57 rfl (lv_at hl 2 rfl) ?_
        refine lv_iconst (v := 0) hx hb dL_seen_58 (by decide) ?_
        refine lv_iload_n hx hb dL_seen_59 rfl (lv_at hl 0 rfl) ?_
        refine lq_s (B0 := (LB cI cC cJ cZ cQ x0 a0 a1 a2 a3 a4 a5 a6 v0 v1 t0 t1 h0 u0 u1 pa rg z nx cnt S wd hv hk hc)) (B1 := (LB cI cC cJ cZ cQ x0 a0 a1 a2 a3 a4 a5 a6 v0 v1 t0 t1 h0 u0 u1 pa rg z nx cnt S wd hv hk hc)) (U := [0, 1, 2, 3, 4, 5, 6, 7]) (isC := [0, 1]) (isR := [2, 3, 4, 5, 6, 7]) (As := [.ref x0, .int 0, .int (nI k)]) (rest := [.long (31 * (seW z.2.2.2.2.2.2.2.1 (31 * (31 * (31 * (163 + (z.1 : Int32).toInt64) + (nI z.2.2.2.2.2.1 : Int32).toInt64) + (sumW z.2.2.2.2.2.2.2.1 z.2.2.2.2.2.1 : Int32).toInt64) + (nI z.2.2.2.2.2.2.1 : Int32).toInt64) k))]) ⟨hx, hb, hml, hown, hts⟩ (kL_weight_ok l D H.size cI cC cJ cZ cQ x0 v0 t0 h0 u0 a0 a1 a2 a3 a4 a5 a6 z k (by first | assumption | omega) (by first | assumption | omega)) (vx_cwSW 3 hts gL_seen_L_ask rfl rfl rfl (by decide +kernel) ⟨Nat.le_of_ble_eq_true rfl, Nat.le_of_ble_eq_true rfl⟩) hP hD hK hS hA hN (by decide) rfl rfl rfl rfl hl.1 rfl (Nat.le_of_ble_eq_true rfl) dL_seen_60 ⟨Nat.le_of_ble_eq_true rfl, Nat.le_of_ble_eq_true rfl⟩ (fun H locs hP hD hS => ?_)
        refine lv_i2l hx hb dL_seen_63 rfl ?_
        refine lv_ladd hx hb dL_seen_64 ?_
        refine lv_lstore_n (lv' := [(1, .long ((31 * (seW z.2.2.2.2.2.2.2.1 (31 * (31 * (31 * (163 + (z.1 : Int32).toInt64) + (nI z.2.2.2.2.2.1 : Int32).toInt64) + (sumW z.2.2.2.2.2.2.2.1 z.2.2.2.2.2.1 : Int32).toInt64) + (nI z.2.2.2.2.2.2.1 : Int32).toInt64) k)) + ((z.2.2.2.2.2.2.2.1 k : Int32).toInt64))), (3, .int (nI k)), (0, .ref x0)]) hx hb dL_seen_65 rfl hl (by decide) rfl (fun ls hl => ?_)
        refine lv_iinc (v := nI (k + 1)) (lv' := [(3, .int (nI (k + 1))), (1, .long ((31 * (seW z.2.2.2.2.2.2.2.1 (31 * (31 * (31 * (163 + (z.1 : Int32).toInt64) + (nI z.2.2.2.2.2.1 : Int32).toInt64) + (sumW z.2.2.2.2.2.2.2.1 z.2.2.2.2.2.1 : Int32).toInt64) + (nI z.2.2.2.2.2.2.1 : Int32).toInt64) k)) + ((z.2.2.2.2.2.2.2.1 k : Int32).toInt64))), (0, .ref x0)]) hx hb dL_seen_66 hl (k := 1) rfl (by exact k_inc k) (by decide) rfl (fun ls hl => ?_)
        refine lv_goto (tgt := 44) hx hb dL_seen_69 (by decide) ?_
        exact ih44 (k + 1) (by first | assumption | omega) (by omega) _ _ hP hD hS _ (lv_sub hl [0, 1, 2] rfl)
  exact J44 (z.2.2.2.2.2.1 - 0 + 1) 0 (by first | assumption | omega) (Nat.lt_succ_self _) _ _ hP hD hS _ (lv_sub hl [0, 1, 2] rfl)

abbrev rmmL_refusesAny0 : Room := { frames := 9, cells := 27, slots := 162, locals := 151 }
set_option maxHeartbeats 4000000 in
set_option maxRecDepth 100000 in
theorem mL_refusesAny0 (l : Launch) (hst : l.stackTraces = false) (D : va_G) (sz : Nat) (cI : ClassId) (cC : ClassId) (cJ : ClassId) (cZ : ClassId) (cQ : ClassId) (x0 : Nat) (a0 : Nat) (a1 : Nat) (a2 : Nat) (a3 : Nat) (a4 : Nat) (a5 : Nat) (a6 : Nat) (v0 : Nat) (v1 : Nat) (t0 : Nat) (t1 : Nat) (h0 : Nat) (u0 : Nat) (u1 : Nat) (pa : Nat → Nat) (rg : Nat → Option Nat) (z : StV) (nx : Nat) (cnt : Nat) (S : Nat → StV) (wd : Nat → Int64) (hv : Int32) (hk : Int32) (hc : Int32) (n : Nat) (hI : oI z nx cnt S) (hrg : rgOK rg pa) (hn : n < 2147483648) (h2 : n % 2 = 0) : Met l yL_refusesAny wsL_refusesAny rmmL_refusesAny0 (va_Pc [.ref x0, .int (nI n)] (oPre D sz (fmB (LB cI cC cJ cZ cQ x0 a0 a1 a2 a3 a4 a5 a6 v0 v1 t0 t1 h0 u0 u1 pa rg z nx cnt S wd hv hk hc) [0, 1, 2, 3, 4, 5, 6, 7]) (kT cI cC cJ cZ cQ))) (oQi D (fun (r9 : Int32) (u9 : OS) => 1 = r9 ∧ z = u9.1 ∧ nx = u9.2.1 ∧ cnt = u9.2.2.1 ∧ S = u9.2.2.2.1) (fun (u9 : OS) => fmB (LB cI cC cJ cZ cQ x0 a0 a1 a2 a3 a4 a5 a6 v0 v1 t0 t1 h0 u0 u1 pa rg u9.1 u9.2.1 u9.2.2.1 u9.2.2.2.1 u9.2.2.2.2.1 u9.2.2.2.2.2.1 u9.2.2.2.2.2.2.1 u9.2.2.2.2.2.2.2) [0, 1, 2, 3, 4, 5, 6, 7]) (va_A (fmB (LB cI cC cJ cZ cQ x0 a0 a1 a2 a3 a4 a5 a6 v0 v1 t0 t1 h0 u0 u1 pa rg z nx cnt S wd hv hk hc) [0, 1, 2, 3, 4, 5, 6, 7]) sz)) 27 162 (va_A (fmB (LB cI cC cJ cZ cQ x0 a0 a1 a2 a3 a4 a5 a6 v0 v1 t0 t1 h0 u0 u1 pa rg z nx cnt S wd hv hk hc) [0, 1, 2, 3, 4, 5, 6, 7]) sz) := by
  refine k_metO (Qf := oQi D (fun (r9 : Int32) (u9 : OS) => 1 = r9 ∧ z = u9.1 ∧ nx = u9.2.1 ∧ cnt = u9.2.2.1 ∧ S = u9.2.2.2.1) (fun (u9 : OS) => fmB (LB cI cC cJ cZ cQ x0 a0 a1 a2 a3 a4 a5 a6 v0 v1 t0 t1 h0 u0 u1 pa rg u9.1 u9.2.1 u9.2.2.1 u9.2.2.2.1 u9.2.2.2.2.1 u9.2.2.2.2.2.1 u9.2.2.2.2.2.2.1 u9.2.2.2.2.2.2.2) [0, 1, 2, 3, 4, 5, 6, 7])) (cc := cL_refusesAny) (maxL := 7) (ret := (some .boolean)) (own := RL) (by decide) rfl (Nat.le_of_ble_eq_true rfl) rfl ?_
  intro p e s m args below meth c ls A H locs hx hb hr hts hown hlocks hml hsz hP hK hD hA hS hN hE hO hl
  have hl : lv_has ls 7 [(0, .ref x0), (1, .int (nI n))] := hl
  obtain ⟨hw1, hwz, hlz⟩ := zI_b hI.1
  obtain ⟨hnx, hcnt, -⟩ := hI.2
  have hff := zI_f hI.1
  have hhf := zI_hf hI.1
  refine lv_iload_n hx hb dL_refusesAny_0 rfl (lv_at hl 1 rfl) ?_
  refine lv_iconst (v := 2) hx hb dL_refusesAny_1 (by decide) ?_
  refine lv_irem hx hb dL_refusesAny_2 (by decide) ?_
  refine k_topi (y := nI (n % 2)) (pk_rem (a := n) (d := 2) (by omega) (by omega) (by omega)) ?_
  refine lv_if_ne (tgt := 15) hx hb dL_refusesAny_3 (by decide) (fun c_3 => ?_) (fun c_3 => ?_)
  · have c_3 : ¬ (n % 2) = 0 := fun h => c_3 ((nI_eq (a := (n % 2)) (b := 0) (by omega) (by omega)).mpr h)
    omega
  · have c_3 : (n % 2) = 0 := (nI_eq (a := (n % 2)) (b := 0) (by omega) (by omega)).mp c_3
    refine lv_iconst (v := (-1)) hx hb dL_refusesAny_6 (by decide) ?_
    refine lv_iload_n hx hb dL_refusesAny_7 rfl (lv_at hl 1 rfl) ?_
    refine lv_bipush (v := 99) hx hb dL_refusesAny_8 (by decide) ?_
    refine lv_irem hx hb dL_refusesAny_10 (by decide) ?_
    refine k_topi (y := nI (n % 99)) (pk_rem (a := n) (d := 99) (by omega) (by omega) (by omega)) ?_
    refine lv_isub hx hb dL_refusesAny_11 ?_
    refine lv_goto (tgt := 22) hx hb dL_refusesAny_12 (by decide) ?_
    refine lv_istore_n (lv' := [(2, .int ((-1) - (nI (n % 99)))), (0, .ref x0), (1, .int (nI n))]) hx hb dL_refusesAny_22 rfl hl (by decide) rfl (fun ls hl => ?_)
    refine lv_iload_n hx hb dL_refusesAny_23 rfl (lv_at hl 2 rfl) ?_
    refine lv_iconst (v := 2) hx hb dL_refusesAny_24 (by decide) ?_
    refine lv_irem hx hb dL_refusesAny_25 (by decide) ?_
    refine k_topi (y := nI (n % 2)) (pk_rem (a := n) (d := 2) (by omega) (by omega) (by omega)) ?_
    refine lv_if_ne (tgt := 33) hx hb dL_refusesAny_26 (by decide) (fun c_26 => ?_) (fun c_26 => ?_)
    · have c_26 : ¬ (n % 2) = 0 := fun h => c_26 ((nI_eq (a := (n % 2)) (b := 0) (by omega) (by omega)).mpr h)
      omega
    · have c_26 : (n % 2) = 0 := (nI_eq (a := (n % 2)) (b := 0) (by omega) (by omega)).mp c_26
      refine lv_iconst (v := 0) hx hb dL_refusesAny_29 (by decide) ?_
      refine lv_goto (tgt := 35) hx hb dL_refusesAny_30 (by decide) ?_
      refine lv_istore_n (lv' := [(3, .int 0), (2, .int ((-1) - (nI (n % 99)))), (0, .ref x0), (1, .int (nI n))]) hx hb dL_refusesAny_35 rfl hl (by decide) rfl (fun ls hl => ?_)
      refine lv_iload_n hx hb dL_refusesAny_36 rfl (lv_at hl 3 rfl) ?_
      refine lv_iconst (v := 2) hx hb dL_refusesAny_37 (by decide) ?_
      refine lv_irem hx hb dL_refusesAny_38 (by decide) ?_
      refine k_topi (y := nI (n % 2)) (pk_rem (a := n) (d := 2) (by omega) (by omega) (by omega)) ?_
      refine lv_if_ne (tgt := 46) hx hb dL_refusesAny_39 (by decide) (fun c_39 => ?_) (fun c_39 => ?_)
      · have c_39 : ¬ (n % 2) = 0 := fun h => c_39 ((nI_eq (a := (n % 2)) (b := 0) (by omega) (by omega)).mpr h)
        omega
      · have c_39 : (n % 2) = 0 := (nI_eq (a := (n % 2)) (b := 0) (by omega) (by omega)).mp c_39
        refine lv_iconst (v := 0) hx hb dL_refusesAny_42 (by decide) ?_
        refine lv_goto (tgt := 49) hx hb dL_refusesAny_43 (by decide) ?_
        refine lv_istore (lv' := [(4, .int 0), (3, .int 0), (2, .int ((-1) - (nI (n % 99)))), (0, .ref x0), (1, .int (nI n))]) hx hb dL_refusesAny_49 hl (by decide) rfl (fun ls hl => ?_)
        refine lv_iload_n hx hb dL_refusesAny_51 rfl (lv_at hl 4 rfl) ?_
        refine lv_iconst (v := 2) hx hb dL_refusesAny_52 (by decide) ?_
        refine lv_irem hx hb dL_refusesAny_53 (by decide) ?_
        refine k_topi (y := nI (n % 2)) (pk_rem (a := n) (d := 2) (by omega) (by omega) (by omega)) ?_
        refine lv_if_ne (tgt := 66) hx hb dL_refusesAny_54 (by decide) (fun c_54 => ?_) (fun c_54 => ?_)
        · have c_54 : ¬ (n % 2) = 0 := fun h => c_54 ((nI_eq (a := (n % 2)) (b := 0) (by omega) (by omega)).mpr h)
          omega
        · have c_54 : (n % 2) = 0 := (nI_eq (a := (n % 2)) (b := 0) (by omega) (by omega)).mp c_54
          refine lv_iconst (v := (-1)) hx hb dL_refusesAny_57 (by decide) ?_
          refine lv_iload_n hx hb dL_refusesAny_58 rfl (lv_at hl 4 rfl) ?_
          refine lv_bipush (v := 99) hx hb dL_refusesAny_59 (by decide) ?_
          refine lv_irem hx hb dL_refusesAny_61 (by decide) ?_
          refine k_topi (y := nI (n % 99)) (pk_rem (a := n) (d := 99) (by omega) (by omega) (by omega)) ?_
          refine lv_isub hx hb dL_refusesAny_62 ?_
          refine lv_goto (tgt := 73) hx hb dL_refusesAny_63 (by decide) ?_
          refine lv_istore (lv' := [(5, .int ((-1) - (nI (n % 99)))), (4, .int 0), (3, .int 0), (2, .int ((-1) - (nI (n % 99)))), (0, .ref x0), (1, .int (nI n))]) hx hb dL_refusesAny_73 hl (by decide) rfl (fun ls hl => ?_)
          refine lv_aload_n hx hb dL_refusesAny_75 rfl (lv_at hl 4 rfl) ?_
          refine lv_iconst (v := 0) hx hb dL_refusesAny_76 (by decide) ?_
          refine lv_iload_n hx hb dL_refusesAny_77 rfl (lv_at hl 3 rfl) ?_
          refine lv_iconst (v := 1) hx hb dL_refusesAny_78 (by decide) ?_
          refine lq_sb (B0 := (LB cI cC cJ cZ cQ x0 a0 a1 a2 a3 a4 a5 a6 v0 v1 t0 t1 h0 u0 u1 pa rg z nx cnt S wd hv hk hc)) (B1 := (LB cI cC cJ cZ cQ x0 a0 a1 a2 a3 a4 a5 a6 v0 v1 t0 t1 h0 u0 u1 pa rg z nx cnt S wd hv hk hc)) (U := [0, 1, 2, 3, 4, 5, 6, 7]) (isC := [0]) (isR := [1, 2, 3, 4, 5, 6, 7]) (As := [.ref x0, .int 0, .int ((-1) - (nI (n % 99))), .int 1]) (rest := []) ⟨hx, hb, hml, hown, hts⟩ (kL_sample_bad l hst D H.size cI cC cJ cZ cQ x0 v0 t0 h0 u0 a0 a1 a2 a3 a4 a5 a6 z ((-1) - (nI (n % 99))) 1 (Or.inl (bd_neg n))) (vx_cwSW 4 hts gL_refusesAny_L_call rfl rfl rfl (by decide +kernel) ⟨Nat.le_of_ble_eq_true rfl, Nat.le_of_ble_eq_true rfl⟩) hP hD hK hS hA hN hE hO (by decide) rfl rfl rfl rfl hl.1 rfl (Nat.le_of_ble_eq_true rfl) dL_refusesAny_79 ⟨Nat.le_of_ble_eq_true rfl, Nat.le_of_ble_eq_true rfl⟩ (fun H locs hP hD hS => ?_)
          refine W.widen (k := 1) (n := 6) (Nat.le_refl _) (Nat.le_refl _) ?_
          refine lv_bipush (v := (-11)) hx hb dL_refusesAny_82 (by decide) ?_
          refine lv_icmp_ne (tgt := 385) hx hb dL_refusesAny_84 (by decide) (fun h => absurd h (by decide)) (fun _ => ?_)
          refine lv_aload_n hx hb dL_refusesAny_87 rfl (lv_at hl 4 rfl) ?_
          refine lv_iconst (v := 0) hx hb dL_refusesAny_88 (by decide) ?_
          refine lv_iconst (v := 5) hx hb dL_refusesAny_89 (by decide) ?_
          refine lv_iload_n hx hb dL_refusesAny_90 rfl (lv_at hl 2 rfl) ?_
          refine lq_sb (B0 := (LB cI cC cJ cZ cQ x0 a0 a1 a2 a3 a4 a5 a6 v0 v1 t0 t1 h0 u0 u1 pa rg z nx cnt S wd hv hk hc)) (B1 := (LB cI cC cJ cZ cQ x0 a0 a1 a2 a3 a4 a5 a6 v0 v1 t0 t1 h0 u0 u1 pa rg z nx cnt S wd hv hk hc)) (U := [0, 1, 2, 3, 4, 5, 6, 7]) (isC := [0]) (isR := [1, 2, 3, 4, 5, 6, 7]) (As := [.ref x0, .int 0, .int 5, .int 0]) (rest := []) ⟨hx, hb, hml, hown, hts⟩ (kL_sample_bad2 l hst D H.size cI cC cJ cZ cQ x0 v0 t0 h0 u0 a0 a1 a2 a3 a4 a5 a6 z 5 0 (by decide) (by decide) (by decide)) (vx_cwSW 4 hts gL_refusesAny_L_call rfl rfl rfl (by decide +kernel) ⟨Nat.le_of_ble_eq_true rfl, Nat.le_of_ble_eq_true rfl⟩) hP hD hK hS hA hN hE hO (by decide) rfl rfl rfl rfl hl.1 rfl (Nat.le_of_ble_eq_true rfl) dL_refusesAny_91 ⟨Nat.le_of_ble_eq_true rfl, Nat.le_of_ble_eq_true rfl⟩ (fun H locs hP hD hS => ?_)
          refine W.widen (k := 2) (n := 12) (Nat.le_refl _) (Nat.le_refl _) ?_
          refine lv_bipush (v := (-11)) hx hb dL_refusesAny_94 (by decide) ?_
          refine lv_icmp_ne (tgt := 385) hx hb dL_refusesAny_96 (by decide) (fun h => absurd h (by decide)) (fun _ => ?_)
          refine lv_aload_n hx hb dL_refusesAny_99 rfl (lv_at hl 4 rfl) ?_
          refine lv_iconst (v := 1) hx hb dL_refusesAny_100 (by decide) ?_
          refine lv_iload_n hx hb dL_refusesAny_101 rfl (lv_at hl 2 rfl) ?_
          refine lv_iconst (v := 0) hx hb dL_refusesAny_102 (by decide) ?_
          refine lq_sb (B0 := (LB cI cC cJ cZ cQ x0 a0 a1 a2 a3 a4 a5 a6 v0 v1 t0 t1 h0 u0 u1 pa rg z nx cnt S wd hv hk hc)) (B1 := (LB cI cC cJ cZ cQ x0 a0 a1 a2 a3 a4 a5 a6 v0 v1 t0 t1 h0 u0 u1 pa rg z nx cnt S wd hv hk hc)) (U := [0, 1, 2, 3, 4, 5, 6, 7]) (isC := [0]) (isR := [1, 2, 3, 4, 5, 6, 7]) (As := [.ref x0, .int 1, .int 0, .int 0]) (rest := []) ⟨hx, hb, hml, hown, hts⟩ (kL_hold_bad l hst D H.size cI cC cJ cZ cQ x0 v0 t0 h0 u0 a0 a1 a2 a3 a4 a5 a6 z 0 0 (by decide)) (vx_cwSW 4 hts gL_refusesAny_L_call rfl rfl rfl (by decide +kernel) ⟨Nat.le_of_ble_eq_true rfl, Nat.le_of_ble_eq_true rfl⟩) hP hD hK hS hA hN hE hO (by decide) rfl rfl rfl rfl hl.1 rfl (Nat.le_of_ble_eq_true rfl) dL_refusesAny_103 ⟨Nat.le_of_ble_eq_true rfl, Nat.le_of_ble_eq_true rfl⟩ (fun H locs hP hD hS => ?_)
          refine W.widen (k := 3) (n := 18) (Nat.le_refl _) (Nat.le_refl _) ?_
          refine lv_bipush (v := (-11)) hx hb dL_refusesAny_106 (by decide) ?_
          refine lv_icmp_ne (tgt := 385) hx hb dL_refusesAny_108 (by decide) (fun h => absurd h (by decide)) (fun _ => ?_)
          refine lv_aload_n hx hb dL_refusesAny_111 rfl (lv_at hl 4 rfl) ?_
          refine lv_iconst (v := 2) hx hb dL_refusesAny_112 (by decide) ?_
          refine lv_iload_n hx hb dL_refusesAny_113 rfl (lv_at hl 5 rfl) ?_
          refine lv_iconst (v := 2) hx hb dL_refusesAny_114 (by decide) ?_
          refine lv_irem hx hb dL_refusesAny_115 (by decide) ?_
          refine k_topi (y := nI (n % 2)) (pk_rem (a := n) (d := 2) (by omega) (by omega) (by omega)) ?_
          refine lv_if_ne (tgt := 123) hx hb dL_refusesAny_116 (by decide) (fun c_116 => ?_) (fun c_116 => ?_)
          · have c_116 : ¬ (n % 2) = 0 := fun h => c_116 ((nI_eq (a := (n % 2)) (b := 0) (by omega) (by omega)).mpr h)
            omega
          · have c_116 : (n % 2) = 0 := (nI_eq (a := (n % 2)) (b := 0) (by omega) (by omega)).mp c_116
            refine lv_iconst (v := 0) hx hb dL_refusesAny_119 (by decide) ?_
            refine lv_goto (tgt := 125) hx hb dL_refusesAny_120 (by decide) ?_
            refine lv_iconst (v := 0) hx hb dL_refusesAny_125 (by decide) ?_
            refine lq_sb (B0 := (LB cI cC cJ cZ cQ x0 a0 a1 a2 a3 a4 a5 a6 v0 v1 t0 t1 h0 u0 u1 pa rg z nx cnt S wd hv hk hc)) (B1 := (LB cI cC cJ cZ cQ x0 a0 a1 a2 a3 a4 a5 a6 v0 v1 t0 t1 h0 u0 u1 pa rg z nx cnt S wd hv hk hc)) (U := [0, 1, 2, 3, 4, 5, 6, 7]) (isC := [0]) (isR := [1, 2, 3, 4, 5, 6, 7]) (As := [.ref x0, .int 2, .int 0, .int 0]) (rest := []) ⟨hx, hb, hml, hown, hts⟩ (kL_setCapacitor_bad l hst D H.size cI cC cJ cZ cQ x0 v0 t0 h0 u0 a0 a1 a2 a3 a4 a5 a6 z 0 0 (by decide)) (vx_cwSW 4 hts gL_refusesAny_L_call rfl rfl rfl (by decide +kernel) ⟨Nat.le_of_ble_eq_true rfl, Nat.le_of_ble_eq_true rfl⟩) hP hD hK hS hA hN hE hO (by decide) rfl rfl rfl rfl hl.1 rfl (Nat.le_of_ble_eq_true rfl) dL_refusesAny_126 ⟨Nat.le_of_ble_eq_true rfl, Nat.le_of_ble_eq_true rfl⟩ (fun H locs hP hD hS => ?_)
            refine W.widen (k := 4) (n := 24) (Nat.le_refl _) (Nat.le_refl _) ?_
            refine lv_bipush (v := (-11)) hx hb dL_refusesAny_129 (by decide) ?_
            refine lv_icmp_ne (tgt := 385) hx hb dL_refusesAny_131 (by decide) (fun h => absurd h (by decide)) (fun _ => ?_)
            refine lv_aload_n hx hb dL_refusesAny_134 rfl (lv_at hl 4 rfl) ?_
            refine lv_iconst (v := 2) hx hb dL_refusesAny_135 (by decide) ?_
            refine lv_iconst (v := 5) hx hb dL_refusesAny_136 (by decide) ?_
            refine lv_iload_n hx hb dL_refusesAny_137 rfl (lv_at hl 5 rfl) ?_
            refine lv_iconst (v := 2) hx hb dL_refusesAny_138 (by decide) ?_
            refine lv_irem hx hb dL_refusesAny_139 (by decide) ?_
            refine k_topi (y := nI (n % 2)) (pk_rem (a := n) (d := 2) (by omega) (by omega) (by omega)) ?_
            refine lv_if_ne (tgt := 147) hx hb dL_refusesAny_140 (by decide) (fun c_140 => ?_) (fun c_140 => ?_)
            · have c_140 : ¬ (n % 2) = 0 := fun h => c_140 ((nI_eq (a := (n % 2)) (b := 0) (by omega) (by omega)).mpr h)
              omega
            · have c_140 : (n % 2) = 0 := (nI_eq (a := (n % 2)) (b := 0) (by omega) (by omega)).mp c_140
              refine lv_iconst (v := (-1)) hx hb dL_refusesAny_143 (by decide) ?_
              refine lv_goto (tgt := 149) hx hb dL_refusesAny_144 (by decide) ?_
              refine lq_sb (B0 := (LB cI cC cJ cZ cQ x0 a0 a1 a2 a3 a4 a5 a6 v0 v1 t0 t1 h0 u0 u1 pa rg z nx cnt S wd hv hk hc)) (B1 := (LB cI cC cJ cZ cQ x0 a0 a1 a2 a3 a4 a5 a6 v0 v1 t0 t1 h0 u0 u1 pa rg z nx cnt S wd hv hk hc)) (U := [0, 1, 2, 3, 4, 5, 6, 7]) (isC := [0]) (isR := [1, 2, 3, 4, 5, 6, 7]) (As := [.ref x0, .int 2, .int 5, .int (-1)]) (rest := []) ⟨hx, hb, hml, hown, hts⟩ (kL_setCapacitor_bad2 l hst D H.size cI cC cJ cZ cQ x0 v0 t0 h0 u0 a0 a1 a2 a3 a4 a5 a6 z 5 (-1) (by decide) (by decide) (by decide)) (vx_cwSW 4 hts gL_refusesAny_L_call rfl rfl rfl (by decide +kernel) ⟨Nat.le_of_ble_eq_true rfl, Nat.le_of_ble_eq_true rfl⟩) hP hD hK hS hA hN hE hO (by decide) rfl rfl rfl rfl hl.1 rfl (Nat.le_of_ble_eq_true rfl) dL_refusesAny_149 ⟨Nat.le_of_ble_eq_true rfl, Nat.le_of_ble_eq_true rfl⟩ (fun H locs hP hD hS => ?_)
              refine W.widen (k := 5) (n := 30) (Nat.le_refl _) (Nat.le_refl _) ?_
              refine lv_bipush (v := (-11)) hx hb dL_refusesAny_152 (by decide) ?_
              refine lv_icmp_ne (tgt := 385) hx hb dL_refusesAny_154 (by decide) (fun h => absurd h (by decide)) (fun _ => ?_)
              refine lv_aload_n hx hb dL_refusesAny_157 rfl (lv_at hl 4 rfl) ?_
              refine lv_iconst (v := 3) hx hb dL_refusesAny_158 (by decide) ?_
              refine lv_iload_n hx hb dL_refusesAny_159 rfl (lv_at hl 5 rfl) ?_
              refine lv_iconst (v := 2) hx hb dL_refusesAny_160 (by decide) ?_
              refine lv_irem hx hb dL_refusesAny_161 (by decide) ?_
              refine k_topi (y := nI (n % 2)) (pk_rem (a := n) (d := 2) (by omega) (by omega) (by omega)) ?_
              refine lv_if_ne (tgt := 170) hx hb dL_refusesAny_162 (by decide) (fun c_162 => ?_) (fun c_162 => ?_)
              · have c_162 : ¬ (n % 2) = 0 := fun h => c_162 ((nI_eq (a := (n % 2)) (b := 0) (by omega) (by omega)).mpr h)
                omega
              · have c_162 : (n % 2) = 0 := (nI_eq (a := (n % 2)) (b := 0) (by omega) (by omega)).mp c_162
                refine lv_bipush (v := (-65)) hx hb dL_refusesAny_165 (by decide) ?_
                refine lv_goto (tgt := 172) hx hb dL_refusesAny_167 (by decide) ?_
                refine lv_iconst (v := 0) hx hb dL_refusesAny_172 (by decide) ?_
                refine lq_sb (B0 := (LB cI cC cJ cZ cQ x0 a0 a1 a2 a3 a4 a5 a6 v0 v1 t0 t1 h0 u0 u1 pa rg z nx cnt S wd hv hk hc)) (B1 := (LB cI cC cJ cZ cQ x0 a0 a1 a2 a3 a4 a5 a6 v0 v1 t0 t1 h0 u0 u1 pa rg z nx cnt S wd hv hk hc)) (U := [0, 1, 2, 3, 4, 5, 6, 7]) (isC := [0]) (isR := [1, 2, 3, 4, 5, 6, 7]) (As := [.ref x0, .int 3, .int (-65), .int 0]) (rest := []) ⟨hx, hb, hml, hown, hts⟩ (kL_setOffset_bad l hst D H.size cI cC cJ cZ cQ x0 v0 t0 h0 u0 a0 a1 a2 a3 a4 a5 a6 z (-65) 0 (by decide)) (vx_cwSW 4 hts gL_refusesAny_L_call rfl rfl rfl (by decide +kernel) ⟨Nat.le_of_ble_eq_true rfl, Nat.le_of_ble_eq_true rfl⟩) hP hD hK hS hA hN hE hO (by decide) rfl rfl rfl rfl hl.1 rfl (Nat.le_of_ble_eq_true rfl) dL_refusesAny_173 ⟨Nat.le_of_ble_eq_true rfl, Nat.le_of_ble_eq_true rfl⟩ (fun H locs hP hD hS => ?_)
                refine W.widen (k := 6) (n := 36) (Nat.le_refl _) (Nat.le_refl _) ?_
                refine lv_bipush (v := (-11)) hx hb dL_refusesAny_176 (by decide) ?_
                refine lv_icmp_ne (tgt := 385) hx hb dL_refusesAny_178 (by decide) (fun h => absurd h (by decide)) (fun _ => ?_)
                refine lv_aload_n hx hb dL_refusesAny_181 rfl (lv_at hl 4 rfl) ?_
                refine lv_iconst (v := 4) hx hb dL_refusesAny_182 (by decide) ?_
                refine lv_iload hx hb dL_refusesAny_183 (lv_at hl 0 rfl) ?_
                refine lv_iconst (v := 0) hx hb dL_refusesAny_185 (by decide) ?_
                refine lq_sb (B0 := (LB cI cC cJ cZ cQ x0 a0 a1 a2 a3 a4 a5 a6 v0 v1 t0 t1 h0 u0 u1 pa rg z nx cnt S wd hv hk hc)) (B1 := (LB cI cC cJ cZ cQ x0 a0 a1 a2 a3 a4 a5 a6 v0 v1 t0 t1 h0 u0 u1 pa rg z nx cnt S wd hv hk hc)) (U := [0, 1, 2, 3, 4, 5, 6, 7]) (isC := [0]) (isR := [1, 2, 3, 4, 5, 6, 7]) (As := [.ref x0, .int 4, .int ((-1) - (nI (n % 99))), .int 0]) (rest := []) ⟨hx, hb, hml, hown, hts⟩ (kL_setGlitch_bad l hst D H.size cI cC cJ cZ cQ x0 v0 t0 h0 u0 a0 a1 a2 a3 a4 a5 a6 z ((-1) - (nI (n % 99))) 0 (Or.inl (bd_neg n))) (vx_cwSW 4 hts gL_refusesAny_L_call rfl rfl rfl (by decide +kernel) ⟨Nat.le_of_ble_eq_true rfl, Nat.le_of_ble_eq_true rfl⟩) hP hD hK hS hA hN hE hO (by decide) rfl rfl rfl rfl hl.1 rfl (Nat.le_of_ble_eq_true rfl) dL_refusesAny_186 ⟨Nat.le_of_ble_eq_true rfl, Nat.le_of_ble_eq_true rfl⟩ (fun H locs hP hD hS => ?_)
                refine W.widen (k := 7) (n := 42) (Nat.le_refl _) (Nat.le_refl _) ?_
                refine lv_bipush (v := (-10)) hx hb dL_refusesAny_189 (by decide) ?_
                refine lv_icmp_ne (tgt := 385) hx hb dL_refusesAny_191 (by decide) (fun h => absurd h (by decide)) (fun _ => ?_)
                refine lv_aload_n hx hb dL_refusesAny_194 rfl (lv_at hl 4 rfl) ?_
                refine lv_iconst (v := 5) hx hb dL_refusesAny_195 (by decide) ?_
                refine lv_iload hx hb dL_refusesAny_196 (lv_at hl 0 rfl) ?_
                refine lv_iconst (v := 0) hx hb dL_refusesAny_198 (by decide) ?_
                refine lq_sb (B0 := (LB cI cC cJ cZ cQ x0 a0 a1 a2 a3 a4 a5 a6 v0 v1 t0 t1 h0 u0 u1 pa rg z nx cnt S wd hv hk hc)) (B1 := (LB cI cC cJ cZ cQ x0 a0 a1 a2 a3 a4 a5 a6 v0 v1 t0 t1 h0 u0 u1 pa rg z nx cnt S wd hv hk hc)) (U := [0, 1, 2, 3, 4, 5, 6, 7]) (isC := [0, 1]) (isR := [2, 3, 4, 5, 6, 7]) (As := [.ref x0, .int 5, .int ((-1) - (nI (n % 99))), .int 0]) (rest := []) ⟨hx, hb, hml, hown, hts⟩ (kL_setWeight_bad l hst D H.size cI cC cJ cZ cQ x0 v0 t0 h0 u0 a0 a1 a2 a3 a4 a5 a6 z ((-1) - (nI (n % 99))) 0 (Or.inl (bd_neg n))) (vx_cwSW 4 hts gL_refusesAny_L_call rfl rfl rfl (by decide +kernel) ⟨Nat.le_of_ble_eq_true rfl, Nat.le_of_ble_eq_true rfl⟩) hP hD hK hS hA hN hE hO (by decide) rfl rfl rfl rfl hl.1 rfl (Nat.le_of_ble_eq_true rfl) dL_refusesAny_199 ⟨Nat.le_of_ble_eq_true rfl, Nat.le_of_ble_eq_true rfl⟩ (fun H locs hP hD hS => ?_)
                refine W.widen (k := 8) (n := 48) (Nat.le_refl _) (Nat.le_refl _) ?_
                refine lv_bipush (v := (-10)) hx hb dL_refusesAny_202 (by decide) ?_
                refine lv_icmp_ne (tgt := 385) hx hb dL_refusesAny_204 (by decide) (fun h => absurd h (by decide)) (fun _ => ?_)
                refine lv_aload_n hx hb dL_refusesAny_207 rfl (lv_at hl 4 rfl) ?_
                refine lv_iconst (v := 5) hx hb dL_refusesAny_208 (by decide) ?_
                refine lv_iconst (v := 0) hx hb dL_refusesAny_209 (by decide) ?_
                refine lv_iload hx hb dL_refusesAny_210 (lv_at hl 1 rfl) ?_
                refine lq_sb (B0 := (LB cI cC cJ cZ cQ x0 a0 a1 a2 a3 a4 a5 a6 v0 v1 t0 t1 h0 u0 u1 pa rg z nx cnt S wd hv hk hc)) (B1 := (LB cI cC cJ cZ cQ x0 a0 a1 a2 a3 a4 a5 a6 v0 v1 t0 t1 h0 u0 u1 pa rg z nx cnt S wd hv hk hc)) (U := [0, 1, 2, 3, 4, 5, 6, 7]) (isC := [0, 1]) (isR := [2, 3, 4, 5, 6, 7]) (As := [.ref x0, .int 5, .int 0, .int 0]) (rest := []) ⟨hx, hb, hml, hown, hts⟩ (kL_setWeight_bad2 l hst D H.size cI cC cJ cZ cQ x0 v0 t0 h0 u0 a0 a1 a2 a3 a4 a5 a6 z 0 0 (by decide) (n_pos hw1 (by omega)) (by decide)) (vx_cwSW 4 hts gL_refusesAny_L_call rfl rfl rfl (by decide +kernel) ⟨Nat.le_of_ble_eq_true rfl, Nat.le_of_ble_eq_true rfl⟩) hP hD hK hS hA hN hE hO (by decide) rfl rfl rfl rfl hl.1 rfl (Nat.le_of_ble_eq_true rfl) dL_refusesAny_212 ⟨Nat.le_of_ble_eq_true rfl, Nat.le_of_ble_eq_true rfl⟩ (fun H locs hP hD hS => ?_)
                refine W.widen (k := 9) (n := 54) (Nat.le_refl _) (Nat.le_refl _) ?_
                refine lv_bipush (v := (-11)) hx hb dL_refusesAny_215 (by decide) ?_
                refine lv_icmp_ne (tgt := 385) hx hb dL_refusesAny_217 (by decide) (fun h => absurd h (by decide)) (fun _ => ?_)
                refine lv_aload_n hx hb dL_refusesAny_220 rfl (lv_at hl 4 rfl) ?_
                refine lv_iconst (v := 5) hx hb dL_refusesAny_221 (by decide) ?_
                refine lv_aload_n hx hb dL_refusesAny_222 rfl (lv_at hl 4 rfl) ?_
                refine lq_v (B0 := (LB cI cC cJ cZ cQ x0 a0 a1 a2 a3 a4 a5 a6 v0 v1 t0 t1 h0 u0 u1 pa rg z nx cnt S wd hv hk hc)) (B1 := (LB cI cC cJ cZ cQ x0 a0 a1 a2 a3 a4 a5 a6 v0 v1 t0 t1 h0 u0 u1 pa rg z nx cnt S wd hv hk hc)) (U := [0, 1, 2, 3, 4, 5, 6, 7]) (isC := [0, 1]) (isR := [2, 3, 4, 5, 6, 7]) (As := []) (rest := [.int 5, .ref x0]) ⟨hx, hb, hml, hown, hts⟩ (kX7_weights l D H.size cI cC cJ cZ cQ x0 v0 t0 h0 u0 a0 a1 a2 a3 a4 a5 a6 z) (cwV 0 hts gL_refusesAny_X7_weights rfl rfl rfl (by decide +kernel) ⟨Nat.le_of_ble_eq_true rfl, Nat.le_of_ble_eq_true rfl⟩) hP hD hK hS hA hN (by decide) rfl rfl rfl 0 7 rfl rfl rfl rfl hl.1 rfl (Nat.le_of_ble_eq_true rfl) dL_refusesAny_223 ⟨Nat.le_of_ble_eq_true rfl, Nat.le_of_ble_eq_true rfl⟩ (fun H locs hP hD hS => ?_)
                refine lv_iconst (v := 0) hx hb dL_refusesAny_226 (by decide) ?_
                refine lq_sb (B0 := (LB cI cC cJ cZ cQ x0 a0 a1 a2 a3 a4 a5 a6 v0 v1 t0 t1 h0 u0 u1 pa rg z nx cnt S wd hv hk hc)) (B1 := (LB cI cC cJ cZ cQ x0 a0 a1 a2 a3 a4 a5 a6 v0 v1 t0 t1 h0 u0 u1 pa rg z nx cnt S wd hv hk hc)) (U := [0, 1, 2, 3, 4, 5, 6, 7]) (isC := [0, 1]) (isR := [2, 3, 4, 5, 6, 7]) (As := [.ref x0, .int 5, .int (nI z.2.2.2.2.2.1), .int 0]) (rest := []) ⟨hx, hb, hml, hown, hts⟩ (kL_setWeight_bad l hst D H.size cI cC cJ cZ cQ x0 v0 t0 h0 u0 a0 a1 a2 a3 a4 a5 a6 z (nI z.2.2.2.2.2.1) 0 (Or.inr (n_refl _))) (vx_cwSW 4 hts gL_refusesAny_L_call rfl rfl rfl (by decide +kernel) ⟨Nat.le_of_ble_eq_true rfl, Nat.le_of_ble_eq_true rfl⟩) hP hD hK hS hA hN hE hO (by decide) rfl rfl rfl rfl hl.1 rfl (Nat.le_of_ble_eq_true rfl) dL_refusesAny_227 ⟨Nat.le_of_ble_eq_true rfl, Nat.le_of_ble_eq_true rfl⟩ (fun H locs hP hD hS => ?_)
                refine W.widen (k := 10) (n := 60) (Nat.le_refl _) (Nat.le_refl _) ?_
                refine lv_bipush (v := (-10)) hx hb dL_refusesAny_230 (by decide) ?_
                refine lv_icmp_ne (tgt := 385) hx hb dL_refusesAny_232 (by decide) (fun h => absurd h (by decide)) (fun _ => ?_)
                refine lv_aload_n hx hb dL_refusesAny_235 rfl (lv_at hl 4 rfl) ?_
                refine lv_bipush (v := 6) hx hb dL_refusesAny_236 (by decide) ?_
                refine lv_iload hx hb dL_refusesAny_238 (lv_at hl 0 rfl) ?_
                refine lv_iload_n hx hb dL_refusesAny_240 rfl (lv_at hl 5 rfl) ?_
                refine lv_iconst (v := 2) hx hb dL_refusesAny_241 (by decide) ?_
                refine lv_irem hx hb dL_refusesAny_242 (by decide) ?_
                refine k_topi (y := nI (n % 2)) (pk_rem (a := n) (d := 2) (by omega) (by omega) (by omega)) ?_
                refine lv_iadd hx hb dL_refusesAny_243 ?_
                refine k_topi (y := (-1) - nI (n % 99)) (by rw [h2]; exact Int32.add_zero _) ?_
                refine lv_iconst (v := 0) hx hb dL_refusesAny_244 (by decide) ?_
                refine lq_sb (B0 := (LB cI cC cJ cZ cQ x0 a0 a1 a2 a3 a4 a5 a6 v0 v1 t0 t1 h0 u0 u1 pa rg z nx cnt S wd hv hk hc)) (B1 := (LB cI cC cJ cZ cQ x0 a0 a1 a2 a3 a4 a5 a6 v0 v1 t0 t1 h0 u0 u1 pa rg z nx cnt S wd hv hk hc)) (U := [0, 1, 2, 3, 4, 5, 6, 7]) (isC := [0, 1]) (isR := [2, 3, 4, 5, 6, 7]) (As := [.ref x0, .int 6, .int ((-1) - nI (n % 99)), .int 0]) (rest := []) ⟨hx, hb, hml, hown, hts⟩ (kL_insertWeight_bad l hst D H.size cI cC cJ cZ cQ x0 v0 t0 h0 u0 a0 a1 a2 a3 a4 a5 a6 z ((-1) - nI (n % 99)) 0 (Or.inl (bd_neg n))) (vx_cwSW 4 hts gL_refusesAny_L_call rfl rfl rfl (by decide +kernel) ⟨Nat.le_of_ble_eq_true rfl, Nat.le_of_ble_eq_true rfl⟩) hP hD hK hS hA hN hE hO (by decide) rfl rfl rfl rfl hl.1 rfl (Nat.le_of_ble_eq_true rfl) dL_refusesAny_245 ⟨Nat.le_of_ble_eq_true rfl, Nat.le_of_ble_eq_true rfl⟩ (fun H locs hP hD hS => ?_)
                refine W.widen (k := 11) (n := 66) (Nat.le_refl _) (Nat.le_refl _) ?_
                refine lv_bipush (v := (-10)) hx hb dL_refusesAny_248 (by decide) ?_
                refine lv_icmp_ne (tgt := 385) hx hb dL_refusesAny_250 (by decide) (fun h => absurd h (by decide)) (fun _ => ?_)
                refine lv_aload_n hx hb dL_refusesAny_253 rfl (lv_at hl 4 rfl) ?_
                refine lv_bipush (v := 6) hx hb dL_refusesAny_254 (by decide) ?_
                refine lv_aload_n hx hb dL_refusesAny_256 rfl (lv_at hl 4 rfl) ?_
                refine lq_v (B0 := (LB cI cC cJ cZ cQ x0 a0 a1 a2 a3 a4 a5 a6 v0 v1 t0 t1 h0 u0 u1 pa rg z nx cnt S wd hv hk hc)) (B1 := (LB cI cC cJ cZ cQ x0 a0 a1 a2 a3 a4 a5 a6 v0 v1 t0 t1 h0 u0 u1 pa rg z nx cnt S wd hv hk hc)) (U := [0, 1, 2, 3, 4, 5, 6, 7]) (isC := [0, 1]) (isR := [2, 3, 4, 5, 6, 7]) (As := []) (rest := [.int 6, .ref x0]) ⟨hx, hb, hml, hown, hts⟩ (kX7_weights l D H.size cI cC cJ cZ cQ x0 v0 t0 h0 u0 a0 a1 a2 a3 a4 a5 a6 z) (cwV 0 hts gL_refusesAny_X7_weights rfl rfl rfl (by decide +kernel) ⟨Nat.le_of_ble_eq_true rfl, Nat.le_of_ble_eq_true rfl⟩) hP hD hK hS hA hN (by decide) rfl rfl rfl 0 7 rfl rfl rfl rfl hl.1 rfl (Nat.le_of_ble_eq_true rfl) dL_refusesAny_257 ⟨Nat.le_of_ble_eq_true rfl, Nat.le_of_ble_eq_true rfl⟩ (fun H locs hP hD hS => ?_)
                refine lv_iconst (v := 1) hx hb dL_refusesAny_260 (by decide) ?_
                refine lv_iadd hx hb dL_refusesAny_261 ?_
                refine k_topi (y := nI (z.2.2.2.2.2.1 + 1)) (nI_add z.2.2.2.2.2.1 1) ?_
                refine lv_iconst (v := 0) hx hb dL_refusesAny_262 (by decide) ?_
                refine lq_sb (B0 := (LB cI cC cJ cZ cQ x0 a0 a1 a2 a3 a4 a5 a6 v0 v1 t0 t1 h0 u0 u1 pa rg z nx cnt S wd hv hk hc)) (B1 := (LB cI cC cJ cZ cQ x0 a0 a1 a2 a3 a4 a5 a6 v0 v1 t0 t1 h0 u0 u1 pa rg z nx cnt S wd hv hk hc)) (U := [0, 1, 2, 3, 4, 5, 6, 7]) (isC := [0, 1]) (isR := [2, 3, 4, 5, 6, 7]) (As := [.ref x0, .int 6, .int (nI (z.2.2.2.2.2.1 + 1)), .int 0]) (rest := []) ⟨hx, hb, hml, hown, hts⟩ (kL_insertWeight_bad l hst D H.size cI cC cJ cZ cQ x0 v0 t0 h0 u0 a0 a1 a2 a3 a4 a5 a6 z (nI (z.2.2.2.2.2.1 + 1)) 0 (Or.inr (n_refl _))) (vx_cwSW 4 hts gL_refusesAny_L_call rfl rfl rfl (by decide +kernel) ⟨Nat.le_of_ble_eq_true rfl, Nat.le_of_ble_eq_true rfl⟩) hP hD hK hS hA hN hE hO (by decide) rfl rfl rfl rfl hl.1 rfl (Nat.le_of_ble_eq_true rfl) dL_refusesAny_263 ⟨Nat.le_of_ble_eq_true rfl, Nat.le_of_ble_eq_true rfl⟩ (fun H locs hP hD hS => ?_)
                refine W.widen (k := 12) (n := 72) (Nat.le_refl _) (Nat.le_refl _) ?_
                refine lv_bipush (v := (-10)) hx hb dL_refusesAny_266 (by decide) ?_
                refine lv_icmp_ne (tgt := 385) hx hb dL_refusesAny_268 (by decide) (fun h => absurd h (by decide)) (fun _ => ?_)
                refine lv_aload_n hx hb dL_refusesAny_271 rfl (lv_at hl 4 rfl) ?_
                refine lv_bipush (v := 6) hx hb dL_refusesAny_272 (by decide) ?_
                refine lv_iconst (v := 0) hx hb dL_refusesAny_274 (by decide) ?_
                refine lv_iload hx hb dL_refusesAny_275 (lv_at hl 1 rfl) ?_
                refine lq_sb (B0 := (LB cI cC cJ cZ cQ x0 a0 a1 a2 a3 a4 a5 a6 v0 v1 t0 t1 h0 u0 u1 pa rg z nx cnt S wd hv hk hc)) (B1 := (LB cI cC cJ cZ cQ x0 a0 a1 a2 a3 a4 a5 a6 v0 v1 t0 t1 h0 u0 u1 pa rg z nx cnt S wd hv hk hc)) (U := [0, 1, 2, 3, 4, 5, 6, 7]) (isC := [0, 1]) (isR := [2, 3, 4, 5, 6, 7]) (As := [.ref x0, .int 6, .int 0, .int 0]) (rest := []) ⟨hx, hb, hml, hown, hts⟩ (kL_insertWeight_bad2 l hst D H.size cI cC cJ cZ cQ x0 v0 t0 h0 u0 a0 a1 a2 a3 a4 a5 a6 z 0 0 (by decide) (n_pos (Nat.le_add_left 1 _) (by omega)) (by decide)) (vx_cwSW 4 hts gL_refusesAny_L_call rfl rfl rfl (by decide +kernel) ⟨Nat.le_of_ble_eq_true rfl, Nat.le_of_ble_eq_true rfl⟩) hP hD hK hS hA hN hE hO (by decide) rfl rfl rfl rfl hl.1 rfl (Nat.le_of_ble_eq_true rfl) dL_refusesAny_277 ⟨Nat.le_of_ble_eq_true rfl, Nat.le_of_ble_eq_true rfl⟩ (fun H locs hP hD hS => ?_)
                refine W.widen (k := 13) (n := 78) (Nat.le_refl _) (Nat.le_refl _) ?_
                refine lv_bipush (v := (-11)) hx hb dL_refusesAny_280 (by decide) ?_
                refine lv_icmp_ne (tgt := 385) hx hb dL_refusesAny_282 (by decide) (fun h => absurd h (by decide)) (fun _ => ?_)
                have J308 : ∀ (H : Heap) (locs : List Loc) (hP : va_P D vwCl (fmB (LB cI cC cJ cZ cQ x0 a0 a1 a2 a3 a4 a5 a6 v0 v1 t0 t1 h0 u0 u1 pa rg z nx cnt S wd hv hk hc) [0, 1, 2, 3, 4, 5, 6, 7]) H) (hD : va_D A (fmB (LB cI cC cJ cZ cQ x0 a0 a1 a2 a3 a4 a5 a6 v0 v1 t0 t1 h0 u0 u1 pa rg z nx cnt S wd hv hk hc) [0, 1, 2, 3, 4, 5, 6, 7])) (hS : va_S A s.heap H locs) (ls : Array Slot) (hl : lv_has ls 7 [(5, .int ((-1) - (nI (n % 99)))), (4, .int 0), (3, .int 0), (2, .int ((-1) - (nI (n % 99)))), (0, .ref x0), (1, .int (nI n))]), W p l e rmmL_refusesAny0 s m args below meth c H locs 14 84 (MQ below (oQi D (fun (r9 : Int32) (u9 : OS) => 1 = r9 ∧ z = u9.1 ∧ nx = u9.2.1 ∧ cnt = u9.2.2.1 ∧ S = u9.2.2.2.1) (fun (u9 : OS) => fmB (LB cI cC cJ cZ cQ x0 a0 a1 a2 a3 a4 a5 a6 v0 v1 t0 t1 h0 u0 u1 pa rg u9.1 u9.2.1 u9.2.2.1 u9.2.2.2.1 u9.2.2.2.2.1 u9.2.2.2.2.2.1 u9.2.2.2.2.2.2.1 u9.2.2.2.2.2.2.2) [0, 1, 2, 3, 4, 5, 6, 7]) A) args s 27 162 A) (F0 m 308 ls []) := by
                  intro H locs hP hD hS ls hl
                  refine lv_aload_n hx hb dL_refusesAny_308 rfl (lv_at hl 4 rfl) ?_
                  refine lv_bipush (v := 7) hx hb dL_refusesAny_309 (by decide) ?_
                  refine lv_iload hx hb dL_refusesAny_311 (lv_at hl 0 rfl) ?_
                  refine lv_iconst (v := 0) hx hb dL_refusesAny_313 (by decide) ?_
                  refine lq_sb (B0 := (LB cI cC cJ cZ cQ x0 a0 a1 a2 a3 a4 a5 a6 v0 v1 t0 t1 h0 u0 u1 pa rg z nx cnt S wd hv hk hc)) (B1 := (LB cI cC cJ cZ cQ x0 a0 a1 a2 a3 a4 a5 a6 v0 v1 t0 t1 h0 u0 u1 pa rg z nx cnt S wd hv hk hc)) (U := [0, 1, 2, 3, 4, 5, 6, 7]) (isC := [0, 1]) (isR := [2, 3, 4, 5, 6, 7]) (As := [.ref x0, .int 7, .int ((-1) - (nI (n % 99))), .int 0]) (rest := []) ⟨hx, hb, hml, hown, hts⟩ (kL_removeWeight_bad l hst D H.size cI cC cJ cZ cQ x0 v0 t0 h0 u0 a0 a1 a2 a3 a4 a5 a6 z ((-1) - (nI (n % 99))) 0 (Or.inl (bd_neg n))) (vx_cwSW 4 hts gL_refusesAny_L_call rfl rfl rfl (by decide +kernel) ⟨Nat.le_of_ble_eq_true rfl, Nat.le_of_ble_eq_true rfl⟩) hP hD hK hS hA hN hE hO (by decide) rfl rfl rfl rfl hl.1 rfl (Nat.le_of_ble_eq_true rfl) dL_refusesAny_314 ⟨Nat.le_of_ble_eq_true rfl, Nat.le_of_ble_eq_true rfl⟩ (fun H locs hP hD hS => ?_)
                  refine W.widen (k := 15) (n := 90) (Nat.le_refl _) (Nat.le_refl _) ?_
                  refine lv_bipush (v := (-10)) hx hb dL_refusesAny_317 (by decide) ?_
                  refine lv_icmp_ne (tgt := 385) hx hb dL_refusesAny_319 (by decide) (fun h => absurd h (by decide)) (fun _ => ?_)
                  have J343 : ∀ (H : Heap) (locs : List Loc) (hP : va_P D vwCl (fmB (LB cI cC cJ cZ cQ x0 a0 a1 a2 a3 a4 a5 a6 v0 v1 t0 t1 h0 u0 u1 pa rg z nx cnt S wd hv hk hc) [0, 1, 2, 3, 4, 5, 6, 7]) H) (hD : va_D A (fmB (LB cI cC cJ cZ cQ x0 a0 a1 a2 a3 a4 a5 a6 v0 v1 t0 t1 h0 u0 u1 pa rg z nx cnt S wd hv hk hc) [0, 1, 2, 3, 4, 5, 6, 7])) (hS : va_S A s.heap H locs) (ls : Array Slot) (hl : lv_has ls 7 [(5, .int ((-1) - (nI (n % 99)))), (4, .int 0), (3, .int 0), (2, .int ((-1) - (nI (n % 99)))), (0, .ref x0), (1, .int (nI n))]), W p l e rmmL_refusesAny0 s m args below meth c H locs 16 96 (MQ below (oQi D (fun (r9 : Int32) (u9 : OS) => 1 = r9 ∧ z = u9.1 ∧ nx = u9.2.1 ∧ cnt = u9.2.2.1 ∧ S = u9.2.2.2.1) (fun (u9 : OS) => fmB (LB cI cC cJ cZ cQ x0 a0 a1 a2 a3 a4 a5 a6 v0 v1 t0 t1 h0 u0 u1 pa rg u9.1 u9.2.1 u9.2.2.1 u9.2.2.2.1 u9.2.2.2.2.1 u9.2.2.2.2.2.1 u9.2.2.2.2.2.2.1 u9.2.2.2.2.2.2.2) [0, 1, 2, 3, 4, 5, 6, 7]) A) args s 27 162 A) (F0 m 343 ls []) := by
                    intro H locs hP hD hS ls hl
                    refine lv_aload_n hx hb dL_refusesAny_343 rfl (lv_at hl 4 rfl) ?_
                    refine lv_bipush (v := 8) hx hb dL_refusesAny_344 (by decide) ?_
                    refine lv_iload_n hx hb dL_refusesAny_346 rfl (lv_at hl 5 rfl) ?_
                    refine lv_iconst (v := 2) hx hb dL_refusesAny_347 (by decide) ?_
                    refine lv_irem hx hb dL_refusesAny_348 (by decide) ?_
                    refine k_topi (y := nI (n % 2)) (pk_rem (a := n) (d := 2) (by omega) (by omega) (by omega)) ?_
                    refine lv_if_ne (tgt := 357) hx hb dL_refusesAny_349 (by decide) (fun c_349 => ?_) (fun c_349 => ?_)
                    · have c_349 : ¬ (n % 2) = 0 := fun h => c_349 ((nI_eq (a := (n % 2)) (b := 0) (by omega) (by omega)).mpr h)
                      omega
                    · have c_349 : (n % 2) = 0 := (nI_eq (a := (n % 2)) (b := 0) (by omega) (by omega)).mp c_349
                      refine lv_bipush (v := 32) hx hb dL_refusesAny_352 (by decide) ?_
                      refine lv_goto (tgt := 359) hx hb dL_refusesAny_354 (by decide) ?_
                      refine lv_iconst (v := 0) hx hb dL_refusesAny_359 (by decide) ?_
                      refine lq_sb (B0 := (LB cI cC cJ cZ cQ x0 a0 a1 a2 a3 a4 a5 a6 v0 v1 t0 t1 h0 u0 u1 pa rg z nx cnt S wd hv hk hc)) (B1 := (LB cI cC cJ cZ cQ x0 a0 a1 a2 a3 a4 a5 a6 v0 v1 t0 t1 h0 u0 u1 pa rg z nx cnt S wd hv hk hc)) (U := [0, 1, 2, 3, 4, 5, 6, 7]) (isC := [0, 5]) (isR := [1, 2, 3, 4, 6, 7]) (As := [.ref x0, .int 8, .int 32, .int 0]) (rest := []) ⟨hx, hb, hml, hown, hts⟩ (kL_append_bad l hst D H.size cI cC cJ cZ cQ x0 v0 t0 h0 u0 a0 a1 a2 a3 a4 a5 a6 z t1 0 (fun _ => 0) 32 0 (by decide)) (vx_cwSW 4 hts gL_refusesAny_L_call rfl rfl rfl (by decide +kernel) ⟨Nat.le_of_ble_eq_true rfl, Nat.le_of_ble_eq_true rfl⟩) hP hD hK hS hA hN hE hO (by decide) rfl rfl rfl rfl hl.1 rfl (Nat.le_of_ble_eq_true rfl) dL_refusesAny_360 ⟨Nat.le_of_ble_eq_true rfl, Nat.le_of_ble_eq_true rfl⟩ (fun H locs hP hD hS => ?_)
                      refine W.widen (k := 17) (n := 102) (Nat.le_refl _) (Nat.le_refl _) ?_
                      refine lv_bipush (v := (-11)) hx hb dL_refusesAny_363 (by decide) ?_
                      refine lv_icmp_ne (tgt := 385) hx hb dL_refusesAny_365 (by decide) (fun h => absurd h (by decide)) (fun _ => ?_)
                      refine lv_aload_n hx hb dL_refusesAny_368 rfl (lv_at hl 4 rfl) ?_
                      refine lv_bipush (v := 9) hx hb dL_refusesAny_369 (by decide) ?_
                      refine lv_iconst (v := 0) hx hb dL_refusesAny_371 (by decide) ?_
                      refine lv_iconst (v := 0) hx hb dL_refusesAny_372 (by decide) ?_
                      refine lq_sb (B0 := (LB cI cC cJ cZ cQ x0 a0 a1 a2 a3 a4 a5 a6 v0 v1 t0 t1 h0 u0 u1 pa rg z nx cnt S wd hv hk hc)) (B1 := (LB cI cC cJ cZ cQ x0 a0 a1 a2 a3 a4 a5 a6 v0 v1 t0 t1 h0 u0 u1 pa rg z nx cnt S wd hv hk hc)) (U := [0, 1, 2, 3, 4, 5, 6, 7]) (isC := [0, 5]) (isR := [1, 2, 3, 4, 6, 7]) (As := [.ref x0, .int 9, .int 0, .int 0]) (rest := []) ⟨hx, hb, hml, hown, hts⟩ (kL_load_bad l hst D H.size cI cC cJ cZ cQ x0 v0 t0 h0 u0 a0 a1 a2 a3 a4 a5 a6 z t1 0 (fun _ => 0) 0 0 (by omega) (by decide)) (vx_cwSW 4 hts gL_refusesAny_L_call rfl rfl rfl (by decide +kernel) ⟨Nat.le_of_ble_eq_true rfl, Nat.le_of_ble_eq_true rfl⟩) hP hD hK hS hA hN hE hO (by decide) rfl rfl rfl rfl hl.1 rfl (Nat.le_of_ble_eq_true rfl) dL_refusesAny_373 ⟨Nat.le_of_ble_eq_true rfl, Nat.le_of_ble_eq_true rfl⟩ (fun H locs hP hD hS => ?_)
                      refine W.widen (k := 18) (n := 108) (Nat.le_refl _) (Nat.le_refl _) ?_
                      refine lv_bipush (v := (-11)) hx hb dL_refusesAny_376 (by decide) ?_
                      refine lv_icmp_ne (tgt := 385) hx hb dL_refusesAny_378 (by decide) (fun h => absurd h (by decide)) (fun _ => ?_)
                      refine lv_iconst (v := 1) hx hb dL_refusesAny_381 (by decide) ?_
                      refine lv_goto (tgt := 386) hx hb dL_refusesAny_382 (by decide) ?_
                      refine lv_istore (lv' := [(6, .int 1), (5, .int ((-1) - (nI (n % 99)))), (4, .int 0), (3, .int 0), (2, .int ((-1) - (nI (n % 99)))), (0, .ref x0), (1, .int (nI n))]) hx hb dL_refusesAny_386 hl (by decide) rfl (fun ls hl => ?_)
                      refine lv_iload hx hb dL_refusesAny_388 (lv_at hl 0 rfl) ?_
                      refine lv_if_eq (tgt := 516) hx hb dL_refusesAny_390 (by decide) (fun h => absurd h (by decide)) (fun _ => ?_)
                      refine lv_aload_n hx hb dL_refusesAny_393 rfl (lv_at hl 5 rfl) ?_
                      refine lv_iconst (v := 0) hx hb dL_refusesAny_394 (by decide) ?_
                      refine lv_iload hx hb dL_refusesAny_395 (lv_at hl 1 rfl) ?_
                      refine lq_sb (B0 := (LB cI cC cJ cZ cQ x0 a0 a1 a2 a3 a4 a5 a6 v0 v1 t0 t1 h0 u0 u1 pa rg z nx cnt S wd hv hk hc)) (B1 := (LB cI cC cJ cZ cQ x0 a0 a1 a2 a3 a4 a5 a6 v0 v1 t0 t1 h0 u0 u1 pa rg z nx cnt S wd hv hk hc)) (U := [0, 1, 2, 3, 4, 5, 6, 7]) (isC := [0, 1]) (isR := [2, 3, 4, 5, 6, 7]) (As := [.ref x0, .int 0, .int ((-1) - (nI (n % 99)))]) (rest := []) ⟨hx, hb, hml, hown, hts⟩ (kL_weight_bad l hst D H.size cI cC cJ cZ cQ x0 v0 t0 h0 u0 a0 a1 a2 a3 a4 a5 a6 z ((-1) - (nI (n % 99))) (Or.inl (bd_neg n))) (vx_cwSW 3 hts gL_refusesAny_L_ask rfl rfl rfl (by decide +kernel) ⟨Nat.le_of_ble_eq_true rfl, Nat.le_of_ble_eq_true rfl⟩) hP hD hK hS hA hN hE hO (by decide) rfl rfl rfl rfl hl.1 rfl (Nat.le_of_ble_eq_true rfl) dL_refusesAny_397 ⟨Nat.le_of_ble_eq_true rfl, Nat.le_of_ble_eq_true rfl⟩ (fun H locs hP hD hS => ?_)
                      refine W.widen (k := 19) (n := 114) (Nat.le_refl _) (Nat.le_refl _) ?_
                      refine lv_ldc hx hb hown (hts (Cond.constant RL 76 (-1000000)) (List.mem_of_getElem? (i := 2) rfl)) dL_refusesAny_400 ?_
                      refine lv_icmp_ne (tgt := 516) hx hb dL_refusesAny_402 (by decide) (fun h => absurd h (by decide)) (fun _ => ?_)
                      refine lv_aload_n hx hb dL_refusesAny_405 rfl (lv_at hl 5 rfl) ?_
                      refine lv_iconst (v := 0) hx hb dL_refusesAny_406 (by decide) ?_
                      refine lv_aload_n hx hb dL_refusesAny_407 rfl (lv_at hl 5 rfl) ?_
                      refine lq_v (B0 := (LB cI cC cJ cZ cQ x0 a0 a1 a2 a3 a4 a5 a6 v0 v1 t0 t1 h0 u0 u1 pa rg z nx cnt S wd hv hk hc)) (B1 := (LB cI cC cJ cZ cQ x0 a0 a1 a2 a3 a4 a5 a6 v0 v1 t0 t1 h0 u0 u1 pa rg z nx cnt S wd hv hk hc)) (U := [0, 1, 2, 3, 4, 5, 6, 7]) (isC := [0, 1]) (isR := [2, 3, 4, 5, 6, 7]) (As := []) (rest := [.int 0, .ref x0]) ⟨hx, hb, hml, hown, hts⟩ (kX7_weights l D H.size cI cC cJ cZ cQ x0 v0 t0 h0 u0 a0 a1 a2 a3 a4 a5 a6 z) (cwV 0 hts gL_refusesAny_X7_weights rfl rfl rfl (by decide +kernel) ⟨Nat.le_of_ble_eq_true rfl, Nat.le_of_ble_eq_true rfl⟩) hP hD hK hS hA hN (by decide) rfl rfl rfl 0 7 rfl rfl rfl rfl hl.1 rfl (Nat.le_of_ble_eq_true rfl) dL_refusesAny_408 ⟨Nat.le_of_ble_eq_true rfl, Nat.le_of_ble_eq_true rfl⟩ (fun H locs hP hD hS => ?_)
                      refine lq_sb (B0 := (LB cI cC cJ cZ cQ x0 a0 a1 a2 a3 a4 a5 a6 v0 v1 t0 t1 h0 u0 u1 pa rg z nx cnt S wd hv hk hc)) (B1 := (LB cI cC cJ cZ cQ x0 a0 a1 a2 a3 a4 a5 a6 v0 v1 t0 t1 h0 u0 u1 pa rg z nx cnt S wd hv hk hc)) (U := [0, 1, 2, 3, 4, 5, 6, 7]) (isC := [0, 1]) (isR := [2, 3, 4, 5, 6, 7]) (As := [.ref x0, .int 0, .int (nI z.2.2.2.2.2.1)]) (rest := []) ⟨hx, hb, hml, hown, hts⟩ (kL_weight_bad l hst D H.size cI cC cJ cZ cQ x0 v0 t0 h0 u0 a0 a1 a2 a3 a4 a5 a6 z (nI z.2.2.2.2.2.1) (Or.inr (n_refl _))) (vx_cwSW 3 hts gL_refusesAny_L_ask rfl rfl rfl (by decide +kernel) ⟨Nat.le_of_ble_eq_true rfl, Nat.le_of_ble_eq_true rfl⟩) hP hD hK hS hA hN hE hO (by decide) rfl rfl rfl rfl hl.1 rfl (Nat.le_of_ble_eq_true rfl) dL_refusesAny_411 ⟨Nat.le_of_ble_eq_true rfl, Nat.le_of_ble_eq_true rfl⟩ (fun H locs hP hD hS => ?_)
                      refine W.widen (k := 20) (n := 120) (Nat.le_refl _) (Nat.le_refl _) ?_
                      refine lv_ldc hx hb hown (hts (Cond.constant RL 76 (-1000000)) (List.mem_of_getElem? (i := 2) rfl)) dL_refusesAny_414 ?_
                      refine lv_icmp_ne (tgt := 516) hx hb dL_refusesAny_416 (by decide) (fun h => absurd h (by decide)) (fun _ => ?_)
                      refine lv_aload_n hx hb dL_refusesAny_419 rfl (lv_at hl 5 rfl) ?_
                      refine lv_iconst (v := 1) hx hb dL_refusesAny_420 (by decide) ?_
                      refine lv_iconst (v := (-1)) hx hb dL_refusesAny_421 (by decide) ?_
                      refine lq_sb (B0 := (LB cI cC cJ cZ cQ x0 a0 a1 a2 a3 a4 a5 a6 v0 v1 t0 t1 h0 u0 u1 pa rg z nx cnt S wd hv hk hc)) (B1 := (LB cI cC cJ cZ cQ x0 a0 a1 a2 a3 a4 a5 a6 v0 v1 t0 t1 h0 u0 u1 pa rg z nx cnt S wd hv hk hc)) (U := [0, 1, 2, 3, 4, 5, 6, 7]) (isC := [0, 1]) (isR := [2, 3, 4, 5, 6, 7]) (As := [.ref x0, .int 1, .int (-1)]) (rest := []) ⟨hx, hb, hml, hown, hts⟩ (kL_code_bad l hst D H.size cI cC cJ cZ cQ x0 v0 t0 h0 u0 a0 a1 a2 a3 a4 a5 a6 z (-1) (Or.inl (by decide))) (vx_cwSW 3 hts gL_refusesAny_L_ask rfl rfl rfl (by decide +kernel) ⟨Nat.le_of_ble_eq_true rfl, Nat.le_of_ble_eq_true rfl⟩) hP hD hK hS hA hN hE hO (by decide) rfl rfl rfl rfl hl.1 rfl (Nat.le_of_ble_eq_true rfl) dL_refusesAny_422 ⟨Nat.le_of_ble_eq_true rfl, Nat.le_of_ble_eq_true rfl⟩ (fun H locs hP hD hS => ?_)
                      refine W.widen (k := 21) (n := 126) (Nat.le_refl _) (Nat.le_refl _) ?_
                      refine lv_ldc hx hb hown (hts (Cond.constant RL 76 (-1000000)) (List.mem_of_getElem? (i := 2) rfl)) dL_refusesAny_425 ?_
                      refine lv_icmp_ne (tgt := 516) hx hb dL_refusesAny_427 (by decide) (fun h => absurd h (by decide)) (fun _ => ?_)
                      refine lv_aload_n hx hb dL_refusesAny_430 rfl (lv_at hl 5 rfl) ?_
                      refine lv_iconst (v := 1) hx hb dL_refusesAny_431 (by decide) ?_
                      refine lv_aload_n hx hb dL_refusesAny_432 rfl (lv_at hl 5 rfl) ?_
                      refine lq_v (B0 := (LB cI cC cJ cZ cQ x0 a0 a1 a2 a3 a4 a5 a6 v0 v1 t0 t1 h0 u0 u1 pa rg z nx cnt S wd hv hk hc)) (B1 := (LB cI cC cJ cZ cQ x0 a0 a1 a2 a3 a4 a5 a6 v0 v1 t0 t1 h0 u0 u1 pa rg z nx cnt S wd hv hk hc)) (U := [0, 1, 2, 3, 4, 5, 6, 7]) (isC := [0, 1]) (isR := [2, 3, 4, 5, 6, 7]) (As := []) (rest := [.int 1, .ref x0]) ⟨hx, hb, hml, hown, hts⟩ (kX7_logged l D H.size cI cC cJ cZ cQ x0 v0 t0 h0 u0 a0 a1 a2 a3 a4 a5 a6 z) (cwV 0 hts gL_refusesAny_X7_logged rfl rfl rfl (by decide +kernel) ⟨Nat.le_of_ble_eq_true rfl, Nat.le_of_ble_eq_true rfl⟩) hP hD hK hS hA hN (by decide) rfl rfl rfl 0 7 rfl rfl rfl rfl hl.1 rfl (Nat.le_of_ble_eq_true rfl) dL_refusesAny_433 ⟨Nat.le_of_ble_eq_true rfl, Nat.le_of_ble_eq_true rfl⟩ (fun H locs hP hD hS => ?_)
                      refine lq_sb (B0 := (LB cI cC cJ cZ cQ x0 a0 a1 a2 a3 a4 a5 a6 v0 v1 t0 t1 h0 u0 u1 pa rg z nx cnt S wd hv hk hc)) (B1 := (LB cI cC cJ cZ cQ x0 a0 a1 a2 a3 a4 a5 a6 v0 v1 t0 t1 h0 u0 u1 pa rg z nx cnt S wd hv hk hc)) (U := [0, 1, 2, 3, 4, 5, 6, 7]) (isC := [0, 1]) (isR := [2, 3, 4, 5, 6, 7]) (As := [.ref x0, .int 1, .int (nI z.2.2.2.2.2.2.1)]) (rest := []) ⟨hx, hb, hml, hown, hts⟩ (kL_code_bad l hst D H.size cI cC cJ cZ cQ x0 v0 t0 h0 u0 a0 a1 a2 a3 a4 a5 a6 z (nI z.2.2.2.2.2.2.1) (Or.inr (n_refl _))) (vx_cwSW 3 hts gL_refusesAny_L_ask rfl rfl rfl (by decide +kernel) ⟨Nat.le_of_ble_eq_true rfl, Nat.le_of_ble_eq_true rfl⟩) hP hD hK hS hA hN hE hO (by decide) rfl rfl rfl rfl hl.1 rfl (Nat.le_of_ble_eq_true rfl) dL_refusesAny_436 ⟨Nat.le_of_ble_eq_true rfl, Nat.le_of_ble_eq_true rfl⟩ (fun H locs hP hD hS => ?_)
                      refine W.widen (k := 22) (n := 132) (Nat.le_refl _) (Nat.le_refl _) ?_
                      refine lv_ldc hx hb hown (hts (Cond.constant RL 76 (-1000000)) (List.mem_of_getElem? (i := 2) rfl)) dL_refusesAny_439 ?_
                      refine lv_icmp_ne (tgt := 516) hx hb dL_refusesAny_441 (by decide) (fun h => absurd h (by decide)) (fun _ => ?_)
                      refine lv_aload_n hx hb dL_refusesAny_444 rfl (lv_at hl 5 rfl) ?_
                      refine lv_iconst (v := 2) hx hb dL_refusesAny_445 (by decide) ?_
                      refine lv_aload_n hx hb dL_refusesAny_446 rfl (lv_at hl 5 rfl) ?_
                      refine lq_v (B0 := (LB cI cC cJ cZ cQ x0 a0 a1 a2 a3 a4 a5 a6 v0 v1 t0 t1 h0 u0 u1 pa rg z nx cnt S wd hv hk hc)) (B1 := (LB cI cC cJ cZ cQ x0 a0 a1 a2 a3 a4 a5 a6 v0 v1 t0 t1 h0 u0 u1 pa rg z nx cnt S wd hv hk hc)) (U := [0, 1, 2, 3, 4, 5, 6, 7]) (isC := [0, 1]) (isR := [2, 3, 4, 5, 6, 7]) (As := []) (rest := [.int 2, .ref x0]) ⟨hx, hb, hml, hown, hts⟩ (kX7_logged l D H.size cI cC cJ cZ cQ x0 v0 t0 h0 u0 a0 a1 a2 a3 a4 a5 a6 z) (cwV 0 hts gL_refusesAny_X7_logged rfl rfl rfl (by decide +kernel) ⟨Nat.le_of_ble_eq_true rfl, Nat.le_of_ble_eq_true rfl⟩) hP hD hK hS hA hN (by decide) rfl rfl rfl 0 7 rfl rfl rfl rfl hl.1 rfl (Nat.le_of_ble_eq_true rfl) dL_refusesAny_447 ⟨Nat.le_of_ble_eq_true rfl, Nat.le_of_ble_eq_true rfl⟩ (fun H locs hP hD hS => ?_)
                      refine lq_sb (B0 := (LB cI cC cJ cZ cQ x0 a0 a1 a2 a3 a4 a5 a6 v0 v1 t0 t1 h0 u0 u1 pa rg z nx cnt S wd hv hk hc)) (B1 := (LB cI cC cJ cZ cQ x0 a0 a1 a2 a3 a4 a5 a6 v0 v1 t0 t1 h0 u0 u1 pa rg z nx cnt S wd hv hk hc)) (U := [0, 1, 2, 3, 4, 5, 6, 7]) (isC := [0, 1]) (isR := [2, 3, 4, 5, 6, 7]) (As := [.ref x0, .int 2, .int (nI z.2.2.2.2.2.2.1)]) (rest := []) ⟨hx, hb, hml, hown, hts⟩ (kL_kept_bad l hst D H.size cI cC cJ cZ cQ x0 v0 t0 h0 u0 a0 a1 a2 a3 a4 a5 a6 z (nI z.2.2.2.2.2.2.1) (Or.inr (n_refl _))) (vx_cwSW 3 hts gL_refusesAny_L_ask rfl rfl rfl (by decide +kernel) ⟨Nat.le_of_ble_eq_true rfl, Nat.le_of_ble_eq_true rfl⟩) hP hD hK hS hA hN hE hO (by decide) rfl rfl rfl rfl hl.1 rfl (Nat.le_of_ble_eq_true rfl) dL_refusesAny_450 ⟨Nat.le_of_ble_eq_true rfl, Nat.le_of_ble_eq_true rfl⟩ (fun H locs hP hD hS => ?_)
                      refine W.widen (k := 23) (n := 138) (Nat.le_refl _) (Nat.le_refl _) ?_
                      refine lv_ldc hx hb hown (hts (Cond.constant RL 76 (-1000000)) (List.mem_of_getElem? (i := 2) rfl)) dL_refusesAny_453 ?_
                      refine lv_icmp_ne (tgt := 516) hx hb dL_refusesAny_455 (by decide) (fun h => absurd h (by decide)) (fun _ => ?_)
                      refine lv_aload_n hx hb dL_refusesAny_458 rfl (lv_at hl 5 rfl) ?_
                      refine lv_iconst (v := 3) hx hb dL_refusesAny_459 (by decide) ?_
                      refine lv_bipush (v := 8) hx hb dL_refusesAny_460 (by decide) ?_
                      refine lq_sb (B0 := (LB cI cC cJ cZ cQ x0 a0 a1 a2 a3 a4 a5 a6 v0 v1 t0 t1 h0 u0 u1 pa rg z nx cnt S wd hv hk hc)) (B1 := (LB cI cC cJ cZ cQ x0 a0 a1 a2 a3 a4 a5 a6 v0 v1 t0 t1 h0 u0 u1 pa rg z nx cnt S wd hv hk hc)) (U := [0, 1, 2, 3, 4, 5, 6, 7]) (isC := [0, 1]) (isR := [2, 3, 4, 5, 6, 7]) (As := [.ref x0, .int 3, .int 8]) (rest := []) ⟨hx, hb, hml, hown, hts⟩ (kL_error_bad l hst D H.size cI cC cJ cZ cQ x0 v0 t0 h0 u0 a0 a1 a2 a3 a4 a5 a6 z 8 (Or.inr (n_le z.2.2.2.2.2.2.1 8 hlz (by omega)))) (vx_cwSW 3 hts gL_refusesAny_L_ask rfl rfl rfl (by decide +kernel) ⟨Nat.le_of_ble_eq_true rfl, Nat.le_of_ble_eq_true rfl⟩) hP hD hK hS hA hN hE hO (by decide) rfl rfl rfl rfl hl.1 rfl (Nat.le_of_ble_eq_true rfl) dL_refusesAny_462 ⟨Nat.le_of_ble_eq_true rfl, Nat.le_of_ble_eq_true rfl⟩ (fun H locs hP hD hS => ?_)
                      refine W.widen (k := 24) (n := 144) (Nat.le_refl _) (Nat.le_refl _) ?_
                      refine lv_ldc hx hb hown (hts (Cond.constant RL 76 (-1000000)) (List.mem_of_getElem? (i := 2) rfl)) dL_refusesAny_465 ?_
                      refine lv_icmp_ne (tgt := 516) hx hb dL_refusesAny_467 (by decide) (fun h => absurd h (by decide)) (fun _ => ?_)
                      refine lv_aload_n hx hb dL_refusesAny_470 rfl (lv_at hl 5 rfl) ?_
                      refine lv_iconst (v := 4) hx hb dL_refusesAny_471 (by decide) ?_
                      refine lv_iload_n hx hb dL_refusesAny_472 rfl (lv_at hl 4 rfl) ?_
                      refine lq_sb (B0 := (LB cI cC cJ cZ cQ x0 a0 a1 a2 a3 a4 a5 a6 v0 v1 t0 t1 h0 u0 u1 pa rg z nx cnt S wd hv hk hc)) (B1 := (LB cI cC cJ cZ cQ x0 a0 a1 a2 a3 a4 a5 a6 v0 v1 t0 t1 h0 u0 u1 pa rg z nx cnt S wd hv hk hc)) (U := [0, 1, 2, 3, 4, 5, 6, 7]) (isC := [0]) (isR := [1, 2, 3, 4, 5, 6, 7]) (As := [.ref x0, .int 4, .int ((-1) - (nI (n % 99)))]) (rest := []) ⟨hx, hb, hml, hown, hts⟩ (kL_ideal_bad l hst D H.size cI cC cJ cZ cQ x0 v0 t0 h0 u0 a0 a1 a2 a3 a4 a5 a6 z ((-1) - (nI (n % 99))) (Or.inl (bd_neg n))) (vx_cwSW 3 hts gL_refusesAny_L_ask rfl rfl rfl (by decide +kernel) ⟨Nat.le_of_ble_eq_true rfl, Nat.le_of_ble_eq_true rfl⟩) hP hD hK hS hA hN hE hO (by decide) rfl rfl rfl rfl hl.1 rfl (Nat.le_of_ble_eq_true rfl) dL_refusesAny_473 ⟨Nat.le_of_ble_eq_true rfl, Nat.le_of_ble_eq_true rfl⟩ (fun H locs hP hD hS => ?_)
                      refine W.widen (k := 25) (n := 150) (Nat.le_refl _) (Nat.le_refl _) ?_
                      refine lv_ldc hx hb hown (hts (Cond.constant RL 77 (-1000001)) (List.mem_of_getElem? (i := 3) rfl)) dL_refusesAny_476 ?_
                      refine lv_icmp_ne (tgt := 516) hx hb dL_refusesAny_478 (by decide) (fun h => absurd h (by decide)) (fun _ => ?_)
                      refine lv_aload_n hx hb dL_refusesAny_481 rfl (lv_at hl 5 rfl) ?_
                      refine lv_iconst (v := 5) hx hb dL_refusesAny_482 (by decide) ?_
                      refine lv_iload hx hb dL_refusesAny_483 (lv_at hl 1 rfl) ?_
                      refine lq_sb (B0 := (LB cI cC cJ cZ cQ x0 a0 a1 a2 a3 a4 a5 a6 v0 v1 t0 t1 h0 u0 u1 pa rg z nx cnt S wd hv hk hc)) (B1 := (LB cI cC cJ cZ cQ x0 a0 a1 a2 a3 a4 a5 a6 v0 v1 t0 t1 h0 u0 u1 pa rg z nx cnt S wd hv hk hc)) (U := [0, 1, 2, 3, 4, 5, 6, 7]) (isC := [0, 1]) (isR := [2, 3, 4, 5, 6, 7]) (As := [.ref x0, .int 5, .int ((-1) - (nI (n % 99)))]) (rest := []) ⟨hx, hb, hml, hown, hts⟩ (kL_mended_bad l hst D H.size cI cC cJ cZ cQ x0 v0 t0 h0 u0 a0 a1 a2 a3 a4 a5 a6 z ((-1) - (nI (n % 99))) (Or.inl (bd_neg n))) (vx_cwSW 3 hts gL_refusesAny_L_ask rfl rfl rfl (by decide +kernel) ⟨Nat.le_of_ble_eq_true rfl, Nat.le_of_ble_eq_true rfl⟩) hP hD hK hS hA hN hE hO (by decide) rfl rfl rfl rfl hl.1 rfl (Nat.le_of_ble_eq_true rfl) dL_refusesAny_485 ⟨Nat.le_of_ble_eq_true rfl, Nat.le_of_ble_eq_true rfl⟩ (fun H locs hP hD hS => ?_)
                      refine W.widen (k := 26) (n := 156) (Nat.le_refl _) (Nat.le_refl _) ?_
                      refine lv_ldc hx hb hown (hts (Cond.constant RL 76 (-1000000)) (List.mem_of_getElem? (i := 2) rfl)) dL_refusesAny_488 ?_
                      refine lv_icmp_ne (tgt := 516) hx hb dL_refusesAny_490 (by decide) (fun h => absurd h (by decide)) (fun _ => ?_)
                      refine lv_aload_n hx hb dL_refusesAny_493 rfl (lv_at hl 5 rfl) ?_
                      refine lv_bipush (v := 6) hx hb dL_refusesAny_494 (by decide) ?_
                      refine lv_iload_n hx hb dL_refusesAny_496 rfl (lv_at hl 4 rfl) ?_
                      refine lq_sb (B0 := (LB cI cC cJ cZ cQ x0 a0 a1 a2 a3 a4 a5 a6 v0 v1 t0 t1 h0 u0 u1 pa rg z nx cnt S wd hv hk hc)) (B1 := (LB cI cC cJ cZ cQ x0 a0 a1 a2 a3 a4 a5 a6 v0 v1 t0 t1 h0 u0 u1 pa rg z nx cnt S wd hv hk hc)) (U := [0, 1, 2, 3, 4, 5, 6, 7]) (isC := [0]) (isR := [1, 2, 3, 4, 5, 6, 7]) (As := [.ref x0, .int 6, .int ((-1) - (nI (n % 99)))]) (rest := []) ⟨hx, hb, hml, hown, hts⟩ (kL_ticksToSettle_bad l hst D H.size cI cC cJ cZ cQ x0 v0 t0 h0 u0 a0 a1 a2 a3 a4 a5 a6 z ((-1) - (nI (n % 99))) (Or.inl (bd_neg n))) (vx_cwSW 3 hts gL_refusesAny_L_ask rfl rfl rfl (by decide +kernel) ⟨Nat.le_of_ble_eq_true rfl, Nat.le_of_ble_eq_true rfl⟩) hP hD hK hS hA hN hE hO (by decide) rfl rfl rfl rfl hl.1 rfl (Nat.le_of_ble_eq_true rfl) dL_refusesAny_497 ⟨Nat.le_of_ble_eq_true rfl, Nat.le_of_ble_eq_true rfl⟩ (fun H locs hP hD hS => ?_)
                      refine W.widen (k := 27) (n := 162) (Nat.le_refl _) (Nat.le_refl _) ?_
                      refine lv_ldc hx hb hown (hts (Cond.constant RL 77 (-1000001)) (List.mem_of_getElem? (i := 3) rfl)) dL_refusesAny_500 ?_
                      refine lv_icmp_ne (tgt := 516) hx hb dL_refusesAny_502 (by decide) (fun h => absurd h (by decide)) (fun _ => ?_)
                      refine lv_aload_n hx hb dL_refusesAny_505 rfl (lv_at hl 5 rfl) ?_
                      refine lq_v (B0 := (LB cI cC cJ cZ cQ x0 a0 a1 a2 a3 a4 a5 a6 v0 v1 t0 t1 h0 u0 u1 pa rg z nx cnt S wd hv hk hc)) (B1 := (LB cI cC cJ cZ cQ x0 a0 a1 a2 a3 a4 a5 a6 v0 v1 t0 t1 h0 u0 u1 pa rg z nx cnt S wd hv hk hc)) (U := [0, 1, 2, 3, 4, 5, 6, 7]) (isC := [0, 5]) (isR := [1, 2, 3, 4, 6, 7]) (As := []) (rest := []) ⟨hx, hb, hml, hown, hts⟩ (kX7_firstError l D H.size cI cC cJ cZ cQ x0 v0 t0 h0 u0 a0 a1 a2 a3 a4 a5 a6 z t1 0 (fun _ => 0) (by omega)) (cwV 0 hts gL_refusesAny_X7_firstError rfl rfl rfl (by decide +kernel) ⟨Nat.le_of_ble_eq_true rfl, Nat.le_of_ble_eq_true rfl⟩) hP hD hK hS hA hN (by decide) rfl rfl rfl 0 7 rfl rfl rfl rfl hl.1 rfl (Nat.le_of_ble_eq_true rfl) dL_refusesAny_506 ⟨Nat.le_of_ble_eq_true rfl, Nat.le_of_ble_eq_true rfl⟩ (fun H locs hP hD hS => ?_)
                      refine k_topi (y := 0) rfl ?_
                      refine lv_if_ne (tgt := 516) hx hb dL_refusesAny_509 (by decide) (fun h => absurd h (by decide)) (fun _ => ?_)
                      refine lv_iconst (v := 1) hx hb dL_refusesAny_512 (by decide) ?_
                      refine lv_goto (tgt := 517) hx hb dL_refusesAny_513 (by decide) ?_
                      exact kr_oz (u := (z, nx, cnt, S, wd, hv, hk, hc)) (v := 1) hx hb hr hlocks rfl hP hD hS ⟨rfl, rfl, rfl, rfl, rfl⟩ dL_refusesAny_517
                  refine lv_aload_n hx hb dL_refusesAny_322 rfl (lv_at hl 4 rfl) ?_
                  refine lq_v (B0 := (LB cI cC cJ cZ cQ x0 a0 a1 a2 a3 a4 a5 a6 v0 v1 t0 t1 h0 u0 u1 pa rg z nx cnt S wd hv hk hc)) (B1 := (LB cI cC cJ cZ cQ x0 a0 a1 a2 a3 a4 a5 a6 v0 v1 t0 t1 h0 u0 u1 pa rg z nx cnt S wd hv hk hc)) (U := [0, 1, 2, 3, 4, 5, 6, 7]) (isC := [0, 1]) (isR := [2, 3, 4, 5, 6, 7]) (As := []) (rest := []) ⟨hx, hb, hml, hown, hts⟩ (kX7_weights l D H.size cI cC cJ cZ cQ x0 v0 t0 h0 u0 a0 a1 a2 a3 a4 a5 a6 z) (cwV 0 hts gL_refusesAny_X7_weights rfl rfl rfl (by decide +kernel) ⟨Nat.le_of_ble_eq_true rfl, Nat.le_of_ble_eq_true rfl⟩) hP hD hK hS hA hN (by decide) rfl rfl rfl 0 7 rfl rfl rfl rfl hl.1 rfl (Nat.le_of_ble_eq_true rfl) dL_refusesAny_323 ⟨Nat.le_of_ble_eq_true rfl, Nat.le_of_ble_eq_true rfl⟩ (fun H locs hP hD hS => ?_)
                  refine lv_iconst (v := 1) hx hb dL_refusesAny_326 (by decide) ?_
                  refine lv_icmp_gt (tgt := 343) hx hb dL_refusesAny_327 (by decide) (fun c_327 => ?_) (fun c_327 => ?_)
                  · have c_327 : 1 < z.2.2.2.2.2.1 := (nI_ltI (a := 1) (b := z.2.2.2.2.2.1) (by omega) (by omega)).mp c_327
                    refine W.widen (k := 16) (n := 96) (Nat.le_of_ble_eq_true rfl) (Nat.le_of_ble_eq_true rfl) ?_
                    exact J343 _ _ hP hD hS _ (lv_sub hl [0, 1, 2, 3, 4, 5] rfl)
                  · have c_327 : ¬ 1 < z.2.2.2.2.2.1 := fun h => c_327 ((nI_ltI (a := 1) (b := z.2.2.2.2.2.1) (by omega) (by omega)).mpr h)
                    refine lv_aload_n hx hb dL_refusesAny_330 rfl (lv_at hl 4 rfl) ?_
                    refine lv_bipush (v := 7) hx hb dL_refusesAny_331 (by decide) ?_
                    refine lv_iconst (v := 0) hx hb dL_refusesAny_333 (by decide) ?_
                    refine lv_iconst (v := 0) hx hb dL_refusesAny_334 (by decide) ?_
                    refine lq_sb (B0 := (LB cI cC cJ cZ cQ x0 a0 a1 a2 a3 a4 a5 a6 v0 v1 t0 t1 h0 u0 u1 pa rg z nx cnt S wd hv hk hc)) (B1 := (LB cI cC cJ cZ cQ x0 a0 a1 a2 a3 a4 a5 a6 v0 v1 t0 t1 h0 u0 u1 pa rg z nx cnt S wd hv hk hc)) (U := [0, 1, 2, 3, 4, 5, 6, 7]) (isC := [0, 1]) (isR := [2, 3, 4, 5, 6, 7]) (As := [.ref x0, .int 7, .int 0, .int 0]) (rest := []) ⟨hx, hb, hml, hown, hts⟩ (kL_removeWeight_bad2 l hst D H.size cI cC cJ cZ cQ x0 v0 t0 h0 u0 a0 a1 a2 a3 a4 a5 a6 z 0 0 (by decide) (n_pos hw1 (by omega)) (by omega)) (vx_cwSW 4 hts gL_refusesAny_L_call rfl rfl rfl (by decide +kernel) ⟨Nat.le_of_ble_eq_true rfl, Nat.le_of_ble_eq_true rfl⟩) hP hD hK hS hA hN hE hO (by decide) rfl rfl rfl rfl hl.1 rfl (Nat.le_of_ble_eq_true rfl) dL_refusesAny_335 ⟨Nat.le_of_ble_eq_true rfl, Nat.le_of_ble_eq_true rfl⟩ (fun H locs hP hD hS => ?_)
                    refine W.widen (k := 16) (n := 96) (Nat.le_refl _) (Nat.le_refl _) ?_
                    refine lv_bipush (v := (-12)) hx hb dL_refusesAny_338 (by decide) ?_
                    refine lv_icmp_ne (tgt := 385) hx hb dL_refusesAny_340 (by decide) (fun h => absurd h (by decide)) (fun _ => ?_)
                    exact J343 _ _ hP hD hS _ (lv_sub hl [0, 1, 2, 3, 4, 5] rfl)
                refine lv_aload_n hx hb dL_refusesAny_285 rfl (lv_at hl 4 rfl) ?_
                refine lq_v (B0 := (LB cI cC cJ cZ cQ x0 a0 a1 a2 a3 a4 a5 a6 v0 v1 t0 t1 h0 u0 u1 pa rg z nx cnt S wd hv hk hc)) (B1 := (LB cI cC cJ cZ cQ x0 a0 a1 a2 a3 a4 a5 a6 v0 v1 t0 t1 h0 u0 u1 pa rg z nx cnt S wd hv hk hc)) (U := [0, 1, 2, 3, 4, 5, 6, 7]) (isC := [0, 1]) (isR := [2, 3, 4, 5, 6, 7]) (As := []) (rest := []) ⟨hx, hb, hml, hown, hts⟩ (kX7_weights l D H.size cI cC cJ cZ cQ x0 v0 t0 h0 u0 a0 a1 a2 a3 a4 a5 a6 z) (cwV 0 hts gL_refusesAny_X7_weights rfl rfl rfl (by decide +kernel) ⟨Nat.le_of_ble_eq_true rfl, Nat.le_of_ble_eq_true rfl⟩) hP hD hK hS hA hN (by decide) rfl rfl rfl 0 7 rfl rfl rfl rfl hl.1 rfl (Nat.le_of_ble_eq_true rfl) dL_refusesAny_286 ⟨Nat.le_of_ble_eq_true rfl, Nat.le_of_ble_eq_true rfl⟩ (fun H locs hP hD hS => ?_)
                refine lv_bipush (v := 12) hx hb dL_refusesAny_289 (by decide) ?_
                refine lv_icmp_lt (tgt := 308) hx hb dL_refusesAny_291 (by decide) (fun c_291 => ?_) (fun c_291 => ?_)
                · have c_291 : z.2.2.2.2.2.1 < 12 := (nI_ltI (a := z.2.2.2.2.2.1) (b := 12) (by omega) (by omega)).mp c_291
                  refine W.widen (k := 14) (n := 84) (Nat.le_of_ble_eq_true rfl) (Nat.le_of_ble_eq_true rfl) ?_
                  exact J308 _ _ hP hD hS _ (lv_sub hl [0, 1, 2, 3, 4, 5] rfl)
                · have c_291 : ¬ z.2.2.2.2.2.1 < 12 := fun h => c_291 ((nI_ltI (a := z.2.2.2.2.2.1) (b := 12) (by omega) (by omega)).mpr h)
                  refine lv_aload_n hx hb dL_refusesAny_294 rfl (lv_at hl 4 rfl) ?_
                  refine lv_bipush (v := 6) hx hb dL_refusesAny_295 (by decide) ?_
                  refine lv_bipush (v := 12) hx hb dL_refusesAny_297 (by decide) ?_
                  refine lv_iconst (v := 5) hx hb dL_refusesAny_299 (by decide) ?_
                  refine lq_sb (B0 := (LB cI cC cJ cZ cQ x0 a0 a1 a2 a3 a4 a5 a6 v0 v1 t0 t1 h0 u0 u1 pa rg z nx cnt S wd hv hk hc)) (B1 := (LB cI cC cJ cZ cQ x0 a0 a1 a2 a3 a4 a5 a6 v0 v1 t0 t1 h0 u0 u1 pa rg z nx cnt S wd hv hk hc)) (U := [0, 1, 2, 3, 4, 5, 6, 7]) (isC := [0, 1]) (isR := [2, 3, 4, 5, 6, 7]) (As := [.ref x0, .int 6, .int 12, .int 5]) (rest := []) ⟨hx, hb, hml, hown, hts⟩ (kL_insertWeight_bad3 l hst D H.size cI cC cJ cZ cQ x0 v0 t0 h0 u0 a0 a1 a2 a3 a4 a5 a6 z 12 5 (by decide) (n_lt 12 (z.2.2.2.2.2.1 + 1) (by omega) (by omega)) (by decide) (by decide) (by omega)) (vx_cwSW 4 hts gL_refusesAny_L_call rfl rfl rfl (by decide +kernel) ⟨Nat.le_of_ble_eq_true rfl, Nat.le_of_ble_eq_true rfl⟩) hP hD hK hS hA hN hE hO (by decide) rfl rfl rfl rfl hl.1 rfl (Nat.le_of_ble_eq_true rfl) dL_refusesAny_300 ⟨Nat.le_of_ble_eq_true rfl, Nat.le_of_ble_eq_true rfl⟩ (fun H locs hP hD hS => ?_)
                  refine W.widen (k := 14) (n := 84) (Nat.le_refl _) (Nat.le_refl _) ?_
                  refine lv_bipush (v := (-12)) hx hb dL_refusesAny_303 (by decide) ?_
                  refine lv_icmp_ne (tgt := 385) hx hb dL_refusesAny_305 (by decide) (fun h => absurd h (by decide)) (fun _ => ?_)
                  exact J308 _ _ hP hD hS _ (lv_sub hl [0, 1, 2, 3, 4, 5] rfl)

abbrev rmmL_refusesAny1 : Room := { frames := 9, cells := 27, slots := 162, locals := 151 }
set_option maxHeartbeats 4000000 in
set_option maxRecDepth 100000 in
theorem mL_refusesAny1 (l : Launch) (hst : l.stackTraces = false) (D : va_G) (sz : Nat) (cI : ClassId) (cC : ClassId) (cJ : ClassId) (cZ : ClassId) (cQ : ClassId) (x0 : Nat) (a0 : Nat) (a1 : Nat) (a2 : Nat) (a3 : Nat) (a4 : Nat) (a5 : Nat) (a6 : Nat) (v0 : Nat) (v1 : Nat) (t0 : Nat) (t1 : Nat) (h0 : Nat) (u0 : Nat) (u1 : Nat) (pa : Nat → Nat) (rg : Nat → Option Nat) (z : StV) (nx : Nat) (cnt : Nat) (S : Nat → StV) (wd : Nat → Int64) (hv : Int32) (hk : Int32) (hc : Int32) (n : Nat) (hI : oI z nx cnt S) (hrg : rgOK rg pa) (hn : n < 2147483648) (h2 : n % 2 = 1) : Met l yL_refusesAny wsL_refusesAny rmmL_refusesAny1 (va_Pc [.ref x0, .int (nI n)] (oPre D sz (fmB (LB cI cC cJ cZ cQ x0 a0 a1 a2 a3 a4 a5 a6 v0 v1 t0 t1 h0 u0 u1 pa rg z nx cnt S wd hv hk hc) [0, 1, 2, 3, 4, 5, 6, 7]) (kT cI cC cJ cZ cQ))) (oQi D (fun (r9 : Int32) (u9 : OS) => 1 = r9 ∧ z = u9.1 ∧ nx = u9.2.1 ∧ cnt = u9.2.2.1 ∧ S = u9.2.2.2.1) (fun (u9 : OS) => fmB (LB cI cC cJ cZ cQ x0 a0 a1 a2 a3 a4 a5 a6 v0 v1 t0 t1 h0 u0 u1 pa rg u9.1 u9.2.1 u9.2.2.1 u9.2.2.2.1 u9.2.2.2.2.1 u9.2.2.2.2.2.1 u9.2.2.2.2.2.2.1 u9.2.2.2.2.2.2.2) [0, 1, 2, 3, 4, 5, 6, 7]) (va_A (fmB (LB cI cC cJ cZ cQ x0 a0 a1 a2 a3 a4 a5 a6 v0 v1 t0 t1 h0 u0 u1 pa rg z nx cnt S wd hv hk hc) [0, 1, 2, 3, 4, 5, 6, 7]) sz)) 27 162 (va_A (fmB (LB cI cC cJ cZ cQ x0 a0 a1 a2 a3 a4 a5 a6 v0 v1 t0 t1 h0 u0 u1 pa rg z nx cnt S wd hv hk hc) [0, 1, 2, 3, 4, 5, 6, 7]) sz) := by
  refine k_metO (Qf := oQi D (fun (r9 : Int32) (u9 : OS) => 1 = r9 ∧ z = u9.1 ∧ nx = u9.2.1 ∧ cnt = u9.2.2.1 ∧ S = u9.2.2.2.1) (fun (u9 : OS) => fmB (LB cI cC cJ cZ cQ x0 a0 a1 a2 a3 a4 a5 a6 v0 v1 t0 t1 h0 u0 u1 pa rg u9.1 u9.2.1 u9.2.2.1 u9.2.2.2.1 u9.2.2.2.2.1 u9.2.2.2.2.2.1 u9.2.2.2.2.2.2.1 u9.2.2.2.2.2.2.2) [0, 1, 2, 3, 4, 5, 6, 7])) (cc := cL_refusesAny) (maxL := 7) (ret := (some .boolean)) (own := RL) (by decide) rfl (Nat.le_of_ble_eq_true rfl) rfl ?_
  intro p e s m args below meth c ls A H locs hx hb hr hts hown hlocks hml hsz hP hK hD hA hS hN hE hO hl
  have hl : lv_has ls 7 [(0, .ref x0), (1, .int (nI n))] := hl
  obtain ⟨hw1, hwz, hlz⟩ := zI_b hI.1
  obtain ⟨hnx, hcnt, -⟩ := hI.2
  have hff := zI_f hI.1
  have hhf := zI_hf hI.1
  refine lv_iload_n hx hb dL_refusesAny_0 rfl (lv_at hl 1 rfl) ?_
  refine lv_iconst (v := 2) hx hb dL_refusesAny_1 (by decide) ?_
  refine lv_irem hx hb dL_refusesAny_2 (by decide) ?_
  refine k_topi (y := nI (n % 2)) (pk_rem (a := n) (d := 2) (by omega) (by omega) (by omega)) ?_
  refine lv_if_ne (tgt := 15) hx hb dL_refusesAny_3 (by decide) (fun c_3 => ?_) (fun c_3 => ?_)
  · have c_3 : ¬ (n % 2) = 0 := fun h => c_3 ((nI_eq (a := (n % 2)) (b := 0) (by omega) (by omega)).mpr h)
    refine lv_ldc hx hb hown (hts (Cond.constant RL 107 (65536)) (List.mem_of_getElem? (i := 1) rfl)) dL_refusesAny_15 ?_
    refine lv_iload_n hx hb dL_refusesAny_17 rfl (lv_at hl 1 rfl) ?_
    refine lv_bipush (v := 99) hx hb dL_refusesAny_18 (by decide) ?_
    refine lv_irem hx hb dL_refusesAny_20 (by decide) ?_
    refine k_topi (y := nI (n % 99)) (pk_rem (a := n) (d := 99) (by omega) (by omega) (by omega)) ?_
    refine lv_iadd hx hb dL_refusesAny_21 ?_
    refine k_topi (y := nI (65536 + (n % 99))) (nI_add 65536 (n % 99)) ?_
    refine lv_istore_n (lv' := [(2, .int (nI (65536 + (n % 99)))), (0, .ref x0), (1, .int (nI n))]) hx hb dL_refusesAny_22 rfl hl (by decide) rfl (fun ls hl => ?_)
    refine lv_iload_n hx hb dL_refusesAny_23 rfl (lv_at hl 2 rfl) ?_
    refine lv_iconst (v := 2) hx hb dL_refusesAny_24 (by decide) ?_
    refine lv_irem hx hb dL_refusesAny_25 (by decide) ?_
    refine k_topi (y := nI (n % 2)) (pk_rem (a := n) (d := 2) (by omega) (by omega) (by omega)) ?_
    refine lv_if_ne (tgt := 33) hx hb dL_refusesAny_26 (by decide) (fun c_26 => ?_) (fun c_26 => ?_)
    · have c_26 : ¬ (n % 2) = 0 := fun h => c_26 ((nI_eq (a := (n % 2)) (b := 0) (by omega) (by omega)).mpr h)
      refine lv_bipush (v := 100) hx hb dL_refusesAny_33 (by decide) ?_
      refine lv_istore_n (lv' := [(3, .int 100), (2, .int (nI (65536 + (n % 99)))), (0, .ref x0), (1, .int (nI n))]) hx hb dL_refusesAny_35 rfl hl (by decide) rfl (fun ls hl => ?_)
      refine lv_iload_n hx hb dL_refusesAny_36 rfl (lv_at hl 3 rfl) ?_
      refine lv_iconst (v := 2) hx hb dL_refusesAny_37 (by decide) ?_
      refine lv_irem hx hb dL_refusesAny_38 (by decide) ?_
      refine k_topi (y := nI (n % 2)) (pk_rem (a := n) (d := 2) (by omega) (by omega) (by omega)) ?_
      refine lv_if_ne (tgt := 46) hx hb dL_refusesAny_39 (by decide) (fun c_39 => ?_) (fun c_39 => ?_)
      · have c_39 : ¬ (n % 2) = 0 := fun h => c_39 ((nI_eq (a := (n % 2)) (b := 0) (by omega) (by omega)).mpr h)
        refine lv_sipush (v := 2049) hx hb dL_refusesAny_46 (by decide) ?_
        refine lv_istore (lv' := [(4, .int 2049), (3, .int 100), (2, .int (nI (65536 + (n % 99)))), (0, .ref x0), (1, .int (nI n))]) hx hb dL_refusesAny_49 hl (by decide) rfl (fun ls hl => ?_)
        refine lv_iload_n hx hb dL_refusesAny_51 rfl (lv_at hl 4 rfl) ?_
        refine lv_iconst (v := 2) hx hb dL_refusesAny_52 (by decide) ?_
        refine lv_irem hx hb dL_refusesAny_53 (by decide) ?_
        refine k_topi (y := nI (n % 2)) (pk_rem (a := n) (d := 2) (by omega) (by omega) (by omega)) ?_
        refine lv_if_ne (tgt := 66) hx hb dL_refusesAny_54 (by decide) (fun c_54 => ?_) (fun c_54 => ?_)
        · have c_54 : ¬ (n % 2) = 0 := fun h => c_54 ((nI_eq (a := (n % 2)) (b := 0) (by omega) (by omega)).mpr h)
          refine lv_bipush (v := 12) hx hb dL_refusesAny_66 (by decide) ?_
          refine lv_iload_n hx hb dL_refusesAny_68 rfl (lv_at hl 4 rfl) ?_
          refine lv_bipush (v := 99) hx hb dL_refusesAny_69 (by decide) ?_
          refine lv_irem hx hb dL_refusesAny_71 (by decide) ?_
          refine k_topi (y := nI (n % 99)) (pk_rem (a := n) (d := 99) (by omega) (by omega) (by omega)) ?_
          refine lv_iadd hx hb dL_refusesAny_72 ?_
          refine k_topi (y := nI (12 + (n % 99))) (nI_add 12 (n % 99)) ?_
          refine lv_istore (lv' := [(5, .int (nI (12 + (n % 99)))), (4, .int 2049), (3, .int 100), (2, .int (nI (65536 + (n % 99)))), (0, .ref x0), (1, .int (nI n))]) hx hb dL_refusesAny_73 hl (by decide) rfl (fun ls hl => ?_)
          refine lv_aload_n hx hb dL_refusesAny_75 rfl (lv_at hl 4 rfl) ?_
          refine lv_iconst (v := 0) hx hb dL_refusesAny_76 (by decide) ?_
          refine lv_iload_n hx hb dL_refusesAny_77 rfl (lv_at hl 3 rfl) ?_
          refine lv_iconst (v := 1) hx hb dL_refusesAny_78 (by decide) ?_
          refine lq_sb (B0 := (LB cI cC cJ cZ cQ x0 a0 a1 a2 a3 a4 a5 a6 v0 v1 t0 t1 h0 u0 u1 pa rg z nx cnt S wd hv hk hc)) (B1 := (LB cI cC cJ cZ cQ x0 a0 a1 a2 a3 a4 a5 a6 v0 v1 t0 t1 h0 u0 u1 pa rg z nx cnt S wd hv hk hc)) (U := [0, 1, 2, 3, 4, 5, 6, 7]) (isC := [0]) (isR := [1, 2, 3, 4, 5, 6, 7]) (As := [.ref x0, .int 0, .int (nI (65536 + (n % 99))), .int 1]) (rest := []) ⟨hx, hb, hml, hown, hts⟩ (kL_sample_bad l hst D H.size cI cC cJ cZ cQ x0 v0 t0 h0 u0 a0 a1 a2 a3 a4 a5 a6 z (nI (65536 + (n % 99))) 1 (Or.inr (bd_hi n))) (vx_cwSW 4 hts gL_refusesAny_L_call rfl rfl rfl (by decide +kernel) ⟨Nat.le_of_ble_eq_true rfl, Nat.le_of_ble_eq_true rfl⟩) hP hD hK hS hA hN hE hO (by decide) rfl rfl rfl rfl hl.1 rfl (Nat.le_of_ble_eq_true rfl) dL_refusesAny_79 ⟨Nat.le_of_ble_eq_true rfl, Nat.le_of_ble_eq_true rfl⟩ (fun H locs hP hD hS => ?_)
          refine W.widen (k := 1) (n := 6) (Nat.le_refl _) (Nat.le_refl _) ?_
          refine lv_bipush (v := (-11)) hx hb dL_refusesAny_82 (by decide) ?_
          refine lv_icmp_ne (tgt := 385) hx hb dL_refusesAny_84 (by decide) (fun h => absurd h (by decide)) (fun _ => ?_)
          refine lv_aload_n hx hb dL_refusesAny_87 rfl (lv_at hl 4 rfl) ?_
          refine lv_iconst (v := 0) hx hb dL_refusesAny_88 (by decide) ?_
          refine lv_iconst (v := 5) hx hb dL_refusesAny_89 (by decide) ?_
          refine lv_iload_n hx hb dL_refusesAny_90 rfl (lv_at hl 2 rfl) ?_
          refine lq_sb (B0 := (LB cI cC cJ cZ cQ x0 a0 a1 a2 a3 a4 a5 a6 v0 v1 t0 t1 h0 u0 u1 pa rg z nx cnt S wd hv hk hc)) (B1 := (LB cI cC cJ cZ cQ x0 a0 a1 a2 a3 a4 a5 a6 v0 v1 t0 t1 h0 u0 u1 pa rg z nx cnt S wd hv hk hc)) (U := [0, 1, 2, 3, 4, 5, 6, 7]) (isC := [0]) (isR := [1, 2, 3, 4, 5, 6, 7]) (As := [.ref x0, .int 0, .int 5, .int 100]) (rest := []) ⟨hx, hb, hml, hown, hts⟩ (kL_sample_bad2 l hst D H.size cI cC cJ cZ cQ x0 v0 t0 h0 u0 a0 a1 a2 a3 a4 a5 a6 z 5 100 (by decide) (by decide) (by decide)) (vx_cwSW 4 hts gL_refusesAny_L_call rfl rfl rfl (by decide +kernel) ⟨Nat.le_of_ble_eq_true rfl, Nat.le_of_ble_eq_true rfl⟩) hP hD hK hS hA hN hE hO (by decide) rfl rfl rfl rfl hl.1 rfl (Nat.le_of_ble_eq_true rfl) dL_refusesAny_91 ⟨Nat.le_of_ble_eq_true rfl, Nat.le_of_ble_eq_true rfl⟩ (fun H locs hP hD hS => ?_)
          refine W.widen (k := 2) (n := 12) (Nat.le_refl _) (Nat.le_refl _) ?_
          refine lv_bipush (v := (-11)) hx hb dL_refusesAny_94 (by decide) ?_
          refine lv_icmp_ne (tgt := 385) hx hb dL_refusesAny_96 (by decide) (fun h => absurd h (by decide)) (fun _ => ?_)
          refine lv_aload_n hx hb dL_refusesAny_99 rfl (lv_at hl 4 rfl) ?_
          refine lv_iconst (v := 1) hx hb dL_refusesAny_100 (by decide) ?_
          refine lv_iload_n hx hb dL_refusesAny_101 rfl (lv_at hl 2 rfl) ?_
          refine lv_iconst (v := 0) hx hb dL_refusesAny_102 (by decide) ?_
          refine lq_sb (B0 := (LB cI cC cJ cZ cQ x0 a0 a1 a2 a3 a4 a5 a6 v0 v1 t0 t1 h0 u0 u1 pa rg z nx cnt S wd hv hk hc)) (B1 := (LB cI cC cJ cZ cQ x0 a0 a1 a2 a3 a4 a5 a6 v0 v1 t0 t1 h0 u0 u1 pa rg z nx cnt S wd hv hk hc)) (U := [0, 1, 2, 3, 4, 5, 6, 7]) (isC := [0]) (isR := [1, 2, 3, 4, 5, 6, 7]) (As := [.ref x0, .int 1, .int 100, .int 0]) (rest := []) ⟨hx, hb, hml, hown, hts⟩ (kL_hold_bad l hst D H.size cI cC cJ cZ cQ x0 v0 t0 h0 u0 a0 a1 a2 a3 a4 a5 a6 z 100 0 (by decide)) (vx_cwSW 4 hts gL_refusesAny_L_call rfl rfl rfl (by decide +kernel) ⟨Nat.le_of_ble_eq_true rfl, Nat.le_of_ble_eq_true rfl⟩) hP hD hK hS hA hN hE hO (by decide) rfl rfl rfl rfl hl.1 rfl (Nat.le_of_ble_eq_true rfl) dL_refusesAny_103 ⟨Nat.le_of_ble_eq_true rfl, Nat.le_of_ble_eq_true rfl⟩ (fun H locs hP hD hS => ?_)
          refine W.widen (k := 3) (n := 18) (Nat.le_refl _) (Nat.le_refl _) ?_
          refine lv_bipush (v := (-11)) hx hb dL_refusesAny_106 (by decide) ?_
          refine lv_icmp_ne (tgt := 385) hx hb dL_refusesAny_108 (by decide) (fun h => absurd h (by decide)) (fun _ => ?_)
          refine lv_aload_n hx hb dL_refusesAny_111 rfl (lv_at hl 4 rfl) ?_
          refine lv_iconst (v := 2) hx hb dL_refusesAny_112 (by decide) ?_
          refine lv_iload_n hx hb dL_refusesAny_113 rfl (lv_at hl 5 rfl) ?_
          refine lv_iconst (v := 2) hx hb dL_refusesAny_114 (by decide) ?_
          refine lv_irem hx hb dL_refusesAny_115 (by decide) ?_
          refine k_topi (y := nI (n % 2)) (pk_rem (a := n) (d := 2) (by omega) (by omega) (by omega)) ?_
          refine lv_if_ne (tgt := 123) hx hb dL_refusesAny_116 (by decide) (fun c_116 => ?_) (fun c_116 => ?_)
          · have c_116 : ¬ (n % 2) = 0 := fun h => c_116 ((nI_eq (a := (n % 2)) (b := 0) (by omega) (by omega)).mpr h)
            refine lv_bipush (v := 17) hx hb dL_refusesAny_123 (by decide) ?_
            refine lv_iconst (v := 0) hx hb dL_refusesAny_125 (by decide) ?_
            refine lq_sb (B0 := (LB cI cC cJ cZ cQ x0 a0 a1 a2 a3 a4 a5 a6 v0 v1 t0 t1 h0 u0 u1 pa rg z nx cnt S wd hv hk hc)) (B1 := (LB cI cC cJ cZ cQ x0 a0 a1 a2 a3 a4 a5 a6 v0 v1 t0 t1 h0 u0 u1 pa rg z nx cnt S wd hv hk hc)) (U := [0, 1, 2, 3, 4, 5, 6, 7]) (isC := [0]) (isR := [1, 2, 3, 4, 5, 6, 7]) (As := [.ref x0, .int 2, .int 17, .int 0]) (rest := []) ⟨hx, hb, hml, hown, hts⟩ (kL_setCapacitor_bad l hst D H.size cI cC cJ cZ cQ x0 v0 t0 h0 u0 a0 a1 a2 a3 a4 a5 a6 z 17 0 (by decide)) (vx_cwSW 4 hts gL_refusesAny_L_call rfl rfl rfl (by decide +kernel) ⟨Nat.le_of_ble_eq_true rfl, Nat.le_of_ble_eq_true rfl⟩) hP hD hK hS hA hN hE hO (by decide) rfl rfl rfl rfl hl.1 rfl (Nat.le_of_ble_eq_true rfl) dL_refusesAny_126 ⟨Nat.le_of_ble_eq_true rfl, Nat.le_of_ble_eq_true rfl⟩ (fun H locs hP hD hS => ?_)
            refine W.widen (k := 4) (n := 24) (Nat.le_refl _) (Nat.le_refl _) ?_
            refine lv_bipush (v := (-11)) hx hb dL_refusesAny_129 (by decide) ?_
            refine lv_icmp_ne (tgt := 385) hx hb dL_refusesAny_131 (by decide) (fun h => absurd h (by decide)) (fun _ => ?_)
            refine lv_aload_n hx hb dL_refusesAny_134 rfl (lv_at hl 4 rfl) ?_
            refine lv_iconst (v := 2) hx hb dL_refusesAny_135 (by decide) ?_
            refine lv_iconst (v := 5) hx hb dL_refusesAny_136 (by decide) ?_
            refine lv_iload_n hx hb dL_refusesAny_137 rfl (lv_at hl 5 rfl) ?_
            refine lv_iconst (v := 2) hx hb dL_refusesAny_138 (by decide) ?_
            refine lv_irem hx hb dL_refusesAny_139 (by decide) ?_
            refine k_topi (y := nI (n % 2)) (pk_rem (a := n) (d := 2) (by omega) (by omega) (by omega)) ?_
            refine lv_if_ne (tgt := 147) hx hb dL_refusesAny_140 (by decide) (fun c_140 => ?_) (fun c_140 => ?_)
            · have c_140 : ¬ (n % 2) = 0 := fun h => c_140 ((nI_eq (a := (n % 2)) (b := 0) (by omega) (by omega)).mpr h)
              refine lv_bipush (v := 65) hx hb dL_refusesAny_147 (by decide) ?_
              refine lq_sb (B0 := (LB cI cC cJ cZ cQ x0 a0 a1 a2 a3 a4 a5 a6 v0 v1 t0 t1 h0 u0 u1 pa rg z nx cnt S wd hv hk hc)) (B1 := (LB cI cC cJ cZ cQ x0 a0 a1 a2 a3 a4 a5 a6 v0 v1 t0 t1 h0 u0 u1 pa rg z nx cnt S wd hv hk hc)) (U := [0, 1, 2, 3, 4, 5, 6, 7]) (isC := [0]) (isR := [1, 2, 3, 4, 5, 6, 7]) (As := [.ref x0, .int 2, .int 5, .int 65]) (rest := []) ⟨hx, hb, hml, hown, hts⟩ (kL_setCapacitor_bad2 l hst D H.size cI cC cJ cZ cQ x0 v0 t0 h0 u0 a0 a1 a2 a3 a4 a5 a6 z 5 65 (by decide) (by decide) (by decide)) (vx_cwSW 4 hts gL_refusesAny_L_call rfl rfl rfl (by decide +kernel) ⟨Nat.le_of_ble_eq_true rfl, Nat.le_of_ble_eq_true rfl⟩) hP hD hK hS hA hN hE hO (by decide) rfl rfl rfl rfl hl.1 rfl (Nat.le_of_ble_eq_true rfl) dL_refusesAny_149 ⟨Nat.le_of_ble_eq_true rfl, Nat.le_of_ble_eq_true rfl⟩ (fun H locs hP hD hS => ?_)
              refine W.widen (k := 5) (n := 30) (Nat.le_refl _) (Nat.le_refl _) ?_
              refine lv_bipush (v := (-11)) hx hb dL_refusesAny_152 (by decide) ?_
              refine lv_icmp_ne (tgt := 385) hx hb dL_refusesAny_154 (by decide) (fun h => absurd h (by decide)) (fun _ => ?_)
              refine lv_aload_n hx hb dL_refusesAny_157 rfl (lv_at hl 4 rfl) ?_
              refine lv_iconst (v := 3) hx hb dL_refusesAny_158 (by decide) ?_
              refine lv_iload_n hx hb dL_refusesAny_159 rfl (lv_at hl 5 rfl) ?_
              refine lv_iconst (v := 2) hx hb dL_refusesAny_160 (by decide) ?_
              refine lv_irem hx hb dL_refusesAny_161 (by decide) ?_
              refine k_topi (y := nI (n % 2)) (pk_rem (a := n) (d := 2) (by omega) (by omega) (by omega)) ?_
              refine lv_if_ne (tgt := 170) hx hb dL_refusesAny_162 (by decide) (fun c_162 => ?_) (fun c_162 => ?_)
              · have c_162 : ¬ (n % 2) = 0 := fun h => c_162 ((nI_eq (a := (n % 2)) (b := 0) (by omega) (by omega)).mpr h)
                refine lv_bipush (v := 65) hx hb dL_refusesAny_170 (by decide) ?_
                refine lv_iconst (v := 0) hx hb dL_refusesAny_172 (by decide) ?_
                refine lq_sb (B0 := (LB cI cC cJ cZ cQ x0 a0 a1 a2 a3 a4 a5 a6 v0 v1 t0 t1 h0 u0 u1 pa rg z nx cnt S wd hv hk hc)) (B1 := (LB cI cC cJ cZ cQ x0 a0 a1 a2 a3 a4 a5 a6 v0 v1 t0 t1 h0 u0 u1 pa rg z nx cnt S wd hv hk hc)) (U := [0, 1, 2, 3, 4, 5, 6, 7]) (isC := [0]) (isR := [1, 2, 3, 4, 5, 6, 7]) (As := [.ref x0, .int 3, .int 65, .int 0]) (rest := []) ⟨hx, hb, hml, hown, hts⟩ (kL_setOffset_bad l hst D H.size cI cC cJ cZ cQ x0 v0 t0 h0 u0 a0 a1 a2 a3 a4 a5 a6 z 65 0 (by decide)) (vx_cwSW 4 hts gL_refusesAny_L_call rfl rfl rfl (by decide +kernel) ⟨Nat.le_of_ble_eq_true rfl, Nat.le_of_ble_eq_true rfl⟩) hP hD hK hS hA hN hE hO (by decide) rfl rfl rfl rfl hl.1 rfl (Nat.le_of_ble_eq_true rfl) dL_refusesAny_173 ⟨Nat.le_of_ble_eq_true rfl, Nat.le_of_ble_eq_true rfl⟩ (fun H locs hP hD hS => ?_)
                refine W.widen (k := 6) (n := 36) (Nat.le_refl _) (Nat.le_refl _) ?_
                refine lv_bipush (v := (-11)) hx hb dL_refusesAny_176 (by decide) ?_
                refine lv_icmp_ne (tgt := 385) hx hb dL_refusesAny_178 (by decide) (fun h => absurd h (by decide)) (fun _ => ?_)
                refine lv_aload_n hx hb dL_refusesAny_181 rfl (lv_at hl 4 rfl) ?_
                refine lv_iconst (v := 4) hx hb dL_refusesAny_182 (by decide) ?_
                refine lv_iload hx hb dL_refusesAny_183 (lv_at hl 0 rfl) ?_
                refine lv_iconst (v := 0) hx hb dL_refusesAny_185 (by decide) ?_
                refine lq_sb (B0 := (LB cI cC cJ cZ cQ x0 a0 a1 a2 a3 a4 a5 a6 v0 v1 t0 t1 h0 u0 u1 pa rg z nx cnt S wd hv hk hc)) (B1 := (LB cI cC cJ cZ cQ x0 a0 a1 a2 a3 a4 a5 a6 v0 v1 t0 t1 h0 u0 u1 pa rg z nx cnt S wd hv hk hc)) (U := [0, 1, 2, 3, 4, 5, 6, 7]) (isC := [0]) (isR := [1, 2, 3, 4, 5, 6, 7]) (As := [.ref x0, .int 4, .int (nI (12 + (n % 99))), .int 0]) (rest := []) ⟨hx, hb, hml, hown, hts⟩ (kL_setGlitch_bad l hst D H.size cI cC cJ cZ cQ x0 v0 t0 h0 u0 a0 a1 a2 a3 a4 a5 a6 z (nI (12 + (n % 99))) 0 (Or.inr (bd_12 n))) (vx_cwSW 4 hts gL_refusesAny_L_call rfl rfl rfl (by decide +kernel) ⟨Nat.le_of_ble_eq_true rfl, Nat.le_of_ble_eq_true rfl⟩) hP hD hK hS hA hN hE hO (by decide) rfl rfl rfl rfl hl.1 rfl (Nat.le_of_ble_eq_true rfl) dL_refusesAny_186 ⟨Nat.le_of_ble_eq_true rfl, Nat.le_of_ble_eq_true rfl⟩ (fun H locs hP hD hS => ?_)
                refine W.widen (k := 7) (n := 42) (Nat.le_refl _) (Nat.le_refl _) ?_
                refine lv_bipush (v := (-10)) hx hb dL_refusesAny_189 (by decide) ?_
                refine lv_icmp_ne (tgt := 385) hx hb dL_refusesAny_191 (by decide) (fun h => absurd h (by decide)) (fun _ => ?_)
                refine lv_aload_n hx hb dL_refusesAny_194 rfl (lv_at hl 4 rfl) ?_
                refine lv_iconst (v := 5) hx hb dL_refusesAny_195 (by decide) ?_
                refine lv_iload hx hb dL_refusesAny_196 (lv_at hl 0 rfl) ?_
                refine lv_iconst (v := 0) hx hb dL_refusesAny_198 (by decide) ?_
                refine lq_sb (B0 := (LB cI cC cJ cZ cQ x0 a0 a1 a2 a3 a4 a5 a6 v0 v1 t0 t1 h0 u0 u1 pa rg z nx cnt S wd hv hk hc)) (B1 := (LB cI cC cJ cZ cQ x0 a0 a1 a2 a3 a4 a5 a6 v0 v1 t0 t1 h0 u0 u1 pa rg z nx cnt S wd hv hk hc)) (U := [0, 1, 2, 3, 4, 5, 6, 7]) (isC := [0, 1]) (isR := [2, 3, 4, 5, 6, 7]) (As := [.ref x0, .int 5, .int (nI (12 + (n % 99))), .int 0]) (rest := []) ⟨hx, hb, hml, hown, hts⟩ (kL_setWeight_bad l hst D H.size cI cC cJ cZ cQ x0 v0 t0 h0 u0 a0 a1 a2 a3 a4 a5 a6 z (nI (12 + (n % 99))) 0 (Or.inr (bd_no n (c := z.2.2.2.2.2.1) (by omega)))) (vx_cwSW 4 hts gL_refusesAny_L_call rfl rfl rfl (by decide +kernel) ⟨Nat.le_of_ble_eq_true rfl, Nat.le_of_ble_eq_true rfl⟩) hP hD hK hS hA hN hE hO (by decide) rfl rfl rfl rfl hl.1 rfl (Nat.le_of_ble_eq_true rfl) dL_refusesAny_199 ⟨Nat.le_of_ble_eq_true rfl, Nat.le_of_ble_eq_true rfl⟩ (fun H locs hP hD hS => ?_)
                refine W.widen (k := 8) (n := 48) (Nat.le_refl _) (Nat.le_refl _) ?_
                refine lv_bipush (v := (-10)) hx hb dL_refusesAny_202 (by decide) ?_
                refine lv_icmp_ne (tgt := 385) hx hb dL_refusesAny_204 (by decide) (fun h => absurd h (by decide)) (fun _ => ?_)
                refine lv_aload_n hx hb dL_refusesAny_207 rfl (lv_at hl 4 rfl) ?_
                refine lv_iconst (v := 5) hx hb dL_refusesAny_208 (by decide) ?_
                refine lv_iconst (v := 0) hx hb dL_refusesAny_209 (by decide) ?_
                refine lv_iload hx hb dL_refusesAny_210 (lv_at hl 1 rfl) ?_
                refine lq_sb (B0 := (LB cI cC cJ cZ cQ x0 a0 a1 a2 a3 a4 a5 a6 v0 v1 t0 t1 h0 u0 u1 pa rg z nx cnt S wd hv hk hc)) (B1 := (LB cI cC cJ cZ cQ x0 a0 a1 a2 a3 a4 a5 a6 v0 v1 t0 t1 h0 u0 u1 pa rg z nx cnt S wd hv hk hc)) (U := [0, 1, 2, 3, 4, 5, 6, 7]) (isC := [0, 1]) (isR := [2, 3, 4, 5, 6, 7]) (As := [.ref x0, .int 5, .int 0, .int 2049]) (rest := []) ⟨hx, hb, hml, hown, hts⟩ (kL_setWeight_bad2 l hst D H.size cI cC cJ cZ cQ x0 v0 t0 h0 u0 a0 a1 a2 a3 a4 a5 a6 z 0 2049 (by decide) (n_pos hw1 (by omega)) (by decide)) (vx_cwSW 4 hts gL_refusesAny_L_call rfl rfl rfl (by decide +kernel) ⟨Nat.le_of_ble_eq_true rfl, Nat.le_of_ble_eq_true rfl⟩) hP hD hK hS hA hN hE hO (by decide) rfl rfl rfl rfl hl.1 rfl (Nat.le_of_ble_eq_true rfl) dL_refusesAny_212 ⟨Nat.le_of_ble_eq_true rfl, Nat.le_of_ble_eq_true rfl⟩ (fun H locs hP hD hS => ?_)
                refine W.widen (k := 9) (n := 54) (Nat.le_refl _) (Nat.le_refl _) ?_
                refine lv_bipush (v := (-11)) hx hb dL_refusesAny_215 (by decide) ?_
                refine lv_icmp_ne (tgt := 385) hx hb dL_refusesAny_217 (by decide) (fun h => absurd h (by decide)) (fun _ => ?_)
                refine lv_aload_n hx hb dL_refusesAny_220 rfl (lv_at hl 4 rfl) ?_
                refine lv_iconst (v := 5) hx hb dL_refusesAny_221 (by decide) ?_
                refine lv_aload_n hx hb dL_refusesAny_222 rfl (lv_at hl 4 rfl) ?_
                refine lq_v (B0 := (LB cI cC cJ cZ cQ x0 a0 a1 a2 a3 a4 a5 a6 v0 v1 t0 t1 h0 u0 u1 pa rg z nx cnt S wd hv hk hc)) (B1 := (LB cI cC cJ cZ cQ x0 a0 a1 a2 a3 a4 a5 a6 v0 v1 t0 t1 h0 u0 u1 pa rg z nx cnt S wd hv hk hc)) (U := [0, 1, 2, 3, 4, 5, 6, 7]) (isC := [0, 1]) (isR := [2, 3, 4, 5, 6, 7]) (As := []) (rest := [.int 5, .ref x0]) ⟨hx, hb, hml, hown, hts⟩ (kX7_weights l D H.size cI cC cJ cZ cQ x0 v0 t0 h0 u0 a0 a1 a2 a3 a4 a5 a6 z) (cwV 0 hts gL_refusesAny_X7_weights rfl rfl rfl (by decide +kernel) ⟨Nat.le_of_ble_eq_true rfl, Nat.le_of_ble_eq_true rfl⟩) hP hD hK hS hA hN (by decide) rfl rfl rfl 0 7 rfl rfl rfl rfl hl.1 rfl (Nat.le_of_ble_eq_true rfl) dL_refusesAny_223 ⟨Nat.le_of_ble_eq_true rfl, Nat.le_of_ble_eq_true rfl⟩ (fun H locs hP hD hS => ?_)
                refine lv_iconst (v := 0) hx hb dL_refusesAny_226 (by decide) ?_
                refine lq_sb (B0 := (LB cI cC cJ cZ cQ x0 a0 a1 a2 a3 a4 a5 a6 v0 v1 t0 t1 h0 u0 u1 pa rg z nx cnt S wd hv hk hc)) (B1 := (LB cI cC cJ cZ cQ x0 a0 a1 a2 a3 a4 a5 a6 v0 v1 t0 t1 h0 u0 u1 pa rg z nx cnt S wd hv hk hc)) (U := [0, 1, 2, 3, 4, 5, 6, 7]) (isC := [0, 1]) (isR := [2, 3, 4, 5, 6, 7]) (As := [.ref x0, .int 5, .int (nI z.2.2.2.2.2.1), .int 0]) (rest := []) ⟨hx, hb, hml, hown, hts⟩ (kL_setWeight_bad l hst D H.size cI cC cJ cZ cQ x0 v0 t0 h0 u0 a0 a1 a2 a3 a4 a5 a6 z (nI z.2.2.2.2.2.1) 0 (Or.inr (n_refl _))) (vx_cwSW 4 hts gL_refusesAny_L_call rfl rfl rfl (by decide +kernel) ⟨Nat.le_of_ble_eq_true rfl, Nat.le_of_ble_eq_true rfl⟩) hP hD hK hS hA hN hE hO (by decide) rfl rfl rfl rfl hl.1 rfl (Nat.le_of_ble_eq_true rfl) dL_refusesAny_227 ⟨Nat.le_of_ble_eq_true rfl, Nat.le_of_ble_eq_true rfl⟩ (fun H locs hP hD hS => ?_)
                refine W.widen (k := 10) (n := 60) (Nat.le_refl _) (Nat.le_refl _) ?_
                refine lv_bipush (v := (-10)) hx hb dL_refusesAny_230 (by decide) ?_
                refine lv_icmp_ne (tgt := 385) hx hb dL_refusesAny_232 (by decide) (fun h => absurd h (by decide)) (fun _ => ?_)
                refine lv_aload_n hx hb dL_refusesAny_235 rfl (lv_at hl 4 rfl) ?_
                refine lv_bipush (v := 6) hx hb dL_refusesAny_236 (by decide) ?_
                refine lv_iload hx hb dL_refusesAny_238 (lv_at hl 0 rfl) ?_
                refine lv_iload_n hx hb dL_refusesAny_240 rfl (lv_at hl 5 rfl) ?_
                refine lv_iconst (v := 2) hx hb dL_refusesAny_241 (by decide) ?_
                refine lv_irem hx hb dL_refusesAny_242 (by decide) ?_
                refine k_topi (y := nI (n % 2)) (pk_rem (a := n) (d := 2) (by omega) (by omega) (by omega)) ?_
                refine lv_iadd hx hb dL_refusesAny_243 ?_
                refine k_topi (y := nI ((12 + (n % 99)) + (n % 2))) (nI_add (12 + (n % 99)) (n % 2)) ?_
                refine lv_iconst (v := 0) hx hb dL_refusesAny_244 (by decide) ?_
                refine lq_sb (B0 := (LB cI cC cJ cZ cQ x0 a0 a1 a2 a3 a4 a5 a6 v0 v1 t0 t1 h0 u0 u1 pa rg z nx cnt S wd hv hk hc)) (B1 := (LB cI cC cJ cZ cQ x0 a0 a1 a2 a3 a4 a5 a6 v0 v1 t0 t1 h0 u0 u1 pa rg z nx cnt S wd hv hk hc)) (U := [0, 1, 2, 3, 4, 5, 6, 7]) (isC := [0, 1]) (isR := [2, 3, 4, 5, 6, 7]) (As := [.ref x0, .int 6, .int (nI ((12 + (n % 99)) + (n % 2))), .int 0]) (rest := []) ⟨hx, hb, hml, hown, hts⟩ (kL_insertWeight_bad l hst D H.size cI cC cJ cZ cQ x0 v0 t0 h0 u0 a0 a1 a2 a3 a4 a5 a6 z (nI ((12 + (n % 99)) + (n % 2))) 0 (Or.inr (bd_no1 n (c := z.2.2.2.2.2.1 + 1) (by omega) h2))) (vx_cwSW 4 hts gL_refusesAny_L_call rfl rfl rfl (by decide +kernel) ⟨Nat.le_of_ble_eq_true rfl, Nat.le_of_ble_eq_true rfl⟩) hP hD hK hS hA hN hE hO (by decide) rfl rfl rfl rfl hl.1 rfl (Nat.le_of_ble_eq_true rfl) dL_refusesAny_245 ⟨Nat.le_of_ble_eq_true rfl, Nat.le_of_ble_eq_true rfl⟩ (fun H locs hP hD hS => ?_)
                refine W.widen (k := 11) (n := 66) (Nat.le_refl _) (Nat.le_refl _) ?_
                refine lv_bipush (v := (-10)) hx hb dL_refusesAny_248 (by decide) ?_
                refine lv_icmp_ne (tgt := 385) hx hb dL_refusesAny_250 (by decide) (fun h => absurd h (by decide)) (fun _ => ?_)
                refine lv_aload_n hx hb dL_refusesAny_253 rfl (lv_at hl 4 rfl) ?_
                refine lv_bipush (v := 6) hx hb dL_refusesAny_254 (by decide) ?_
                refine lv_aload_n hx hb dL_refusesAny_256 rfl (lv_at hl 4 rfl) ?_
                refine lq_v (B0 := (LB cI cC cJ cZ cQ x0 a0 a1 a2 a3 a4 a5 a6 v0 v1 t0 t1 h0 u0 u1 pa rg z nx cnt S wd hv hk hc)) (B1 := (LB cI cC cJ cZ cQ x0 a0 a1 a2 a3 a4 a5 a6 v0 v1 t0 t1 h0 u0 u1 pa rg z nx cnt S wd hv hk hc)) (U := [0, 1, 2, 3, 4, 5, 6, 7]) (isC := [0, 1]) (isR := [2, 3, 4, 5, 6, 7]) (As := []) (rest := [.int 6, .ref x0]) ⟨hx, hb, hml, hown, hts⟩ (kX7_weights l D H.size cI cC cJ cZ cQ x0 v0 t0 h0 u0 a0 a1 a2 a3 a4 a5 a6 z) (cwV 0 hts gL_refusesAny_X7_weights rfl rfl rfl (by decide +kernel) ⟨Nat.le_of_ble_eq_true rfl, Nat.le_of_ble_eq_true rfl⟩) hP hD hK hS hA hN (by decide) rfl rfl rfl 0 7 rfl rfl rfl rfl hl.1 rfl (Nat.le_of_ble_eq_true rfl) dL_refusesAny_257 ⟨Nat.le_of_ble_eq_true rfl, Nat.le_of_ble_eq_true rfl⟩ (fun H locs hP hD hS => ?_)
                refine lv_iconst (v := 1) hx hb dL_refusesAny_260 (by decide) ?_
                refine lv_iadd hx hb dL_refusesAny_261 ?_
                refine k_topi (y := nI (z.2.2.2.2.2.1 + 1)) (nI_add z.2.2.2.2.2.1 1) ?_
                refine lv_iconst (v := 0) hx hb dL_refusesAny_262 (by decide) ?_
                refine lq_sb (B0 := (LB cI cC cJ cZ cQ x0 a0 a1 a2 a3 a4 a5 a6 v0 v1 t0 t1 h0 u0 u1 pa rg z nx cnt S wd hv hk hc)) (B1 := (LB cI cC cJ cZ cQ x0 a0 a1 a2 a3 a4 a5 a6 v0 v1 t0 t1 h0 u0 u1 pa rg z nx cnt S wd hv hk hc)) (U := [0, 1, 2, 3, 4, 5, 6, 7]) (isC := [0, 1]) (isR := [2, 3, 4, 5, 6, 7]) (As := [.ref x0, .int 6, .int (nI (z.2.2.2.2.2.1 + 1)), .int 0]) (rest := []) ⟨hx, hb, hml, hown, hts⟩ (kL_insertWeight_bad l hst D H.size cI cC cJ cZ cQ x0 v0 t0 h0 u0 a0 a1 a2 a3 a4 a5 a6 z (nI (z.2.2.2.2.2.1 + 1)) 0 (Or.inr (n_refl _))) (vx_cwSW 4 hts gL_refusesAny_L_call rfl rfl rfl (by decide +kernel) ⟨Nat.le_of_ble_eq_true rfl, Nat.le_of_ble_eq_true rfl⟩) hP hD hK hS hA hN hE hO (by decide) rfl rfl rfl rfl hl.1 rfl (Nat.le_of_ble_eq_true rfl) dL_refusesAny_263 ⟨Nat.le_of_ble_eq_true rfl, Nat.le_of_ble_eq_true rfl⟩ (fun H locs hP hD hS => ?_)
                refine W.widen (k := 12) (n := 72) (Nat.le_refl _) (Nat.le_refl _) ?_
                refine lv_bipush (v := (-10)) hx hb dL_refusesAny_266 (by decide) ?_
                refine lv_icmp_ne (tgt := 385) hx hb dL_refusesAny_268 (by decide) (fun h => absurd h (by decide)) (fun _ => ?_)
                refine lv_aload_n hx hb dL_refusesAny_271 rfl (lv_at hl 4 rfl) ?_
                refine lv_bipush (v := 6) hx hb dL_refusesAny_272 (by decide) ?_
                refine lv_iconst (v := 0) hx hb dL_refusesAny_274 (by decide) ?_
                refine lv_iload hx hb dL_refusesAny_275 (lv_at hl 1 rfl) ?_
                refine lq_sb (B0 := (LB cI cC cJ cZ cQ x0 a0 a1 a2 a3 a4 a5 a6 v0 v1 t0 t1 h0 u0 u1 pa rg z nx cnt S wd hv hk hc)) (B1 := (LB cI cC cJ cZ cQ x0 a0 a1 a2 a3 a4 a5 a6 v0 v1 t0 t1 h0 u0 u1 pa rg z nx cnt S wd hv hk hc)) (U := [0, 1, 2, 3, 4, 5, 6, 7]) (isC := [0, 1]) (isR := [2, 3, 4, 5, 6, 7]) (As := [.ref x0, .int 6, .int 0, .int 2049]) (rest := []) ⟨hx, hb, hml, hown, hts⟩ (kL_insertWeight_bad2 l hst D H.size cI cC cJ cZ cQ x0 v0 t0 h0 u0 a0 a1 a2 a3 a4 a5 a6 z 0 2049 (by decide) (n_pos (Nat.le_add_left 1 _) (by omega)) (by decide)) (vx_cwSW 4 hts gL_refusesAny_L_call rfl rfl rfl (by decide +kernel) ⟨Nat.le_of_ble_eq_true rfl, Nat.le_of_ble_eq_true rfl⟩) hP hD hK hS hA hN hE hO (by decide) rfl rfl rfl rfl hl.1 rfl (Nat.le_of_ble_eq_true rfl) dL_refusesAny_277 ⟨Nat.le_of_ble_eq_true rfl, Nat.le_of_ble_eq_true rfl⟩ (fun H locs hP hD hS => ?_)
                refine W.widen (k := 13) (n := 78) (Nat.le_refl _) (Nat.le_refl _) ?_
                refine lv_bipush (v := (-11)) hx hb dL_refusesAny_280 (by decide) ?_
                refine lv_icmp_ne (tgt := 385) hx hb dL_refusesAny_282 (by decide) (fun h => absurd h (by decide)) (fun _ => ?_)
                have J308 : ∀ (H : Heap) (locs : List Loc) (hP : va_P D vwCl (fmB (LB cI cC cJ cZ cQ x0 a0 a1 a2 a3 a4 a5 a6 v0 v1 t0 t1 h0 u0 u1 pa rg z nx cnt S wd hv hk hc) [0, 1, 2, 3, 4, 5, 6, 7]) H) (hD : va_D A (fmB (LB cI cC cJ cZ cQ x0 a0 a1 a2 a3 a4 a5 a6 v0 v1 t0 t1 h0 u0 u1 pa rg z nx cnt S wd hv hk hc) [0, 1, 2, 3, 4, 5, 6, 7])) (hS : va_S A s.heap H locs) (ls : Array Slot) (hl : lv_has ls 7 [(5, .int (nI (12 + (n % 99)))), (4, .int 2049), (3, .int 100), (2, .int (nI (65536 + (n % 99)))), (0, .ref x0), (1, .int (nI n))]), W p l e rmmL_refusesAny1 s m args below meth c H locs 14 84 (MQ below (oQi D (fun (r9 : Int32) (u9 : OS) => 1 = r9 ∧ z = u9.1 ∧ nx = u9.2.1 ∧ cnt = u9.2.2.1 ∧ S = u9.2.2.2.1) (fun (u9 : OS) => fmB (LB cI cC cJ cZ cQ x0 a0 a1 a2 a3 a4 a5 a6 v0 v1 t0 t1 h0 u0 u1 pa rg u9.1 u9.2.1 u9.2.2.1 u9.2.2.2.1 u9.2.2.2.2.1 u9.2.2.2.2.2.1 u9.2.2.2.2.2.2.1 u9.2.2.2.2.2.2.2) [0, 1, 2, 3, 4, 5, 6, 7]) A) args s 27 162 A) (F0 m 308 ls []) := by
                  intro H locs hP hD hS ls hl
                  refine lv_aload_n hx hb dL_refusesAny_308 rfl (lv_at hl 4 rfl) ?_
                  refine lv_bipush (v := 7) hx hb dL_refusesAny_309 (by decide) ?_
                  refine lv_iload hx hb dL_refusesAny_311 (lv_at hl 0 rfl) ?_
                  refine lv_iconst (v := 0) hx hb dL_refusesAny_313 (by decide) ?_
                  refine lq_sb (B0 := (LB cI cC cJ cZ cQ x0 a0 a1 a2 a3 a4 a5 a6 v0 v1 t0 t1 h0 u0 u1 pa rg z nx cnt S wd hv hk hc)) (B1 := (LB cI cC cJ cZ cQ x0 a0 a1 a2 a3 a4 a5 a6 v0 v1 t0 t1 h0 u0 u1 pa rg z nx cnt S wd hv hk hc)) (U := [0, 1, 2, 3, 4, 5, 6, 7]) (isC := [0, 1]) (isR := [2, 3, 4, 5, 6, 7]) (As := [.ref x0, .int 7, .int (nI (12 + (n % 99))), .int 0]) (rest := []) ⟨hx, hb, hml, hown, hts⟩ (kL_removeWeight_bad l hst D H.size cI cC cJ cZ cQ x0 v0 t0 h0 u0 a0 a1 a2 a3 a4 a5 a6 z (nI (12 + (n % 99))) 0 (Or.inr (bd_no n (c := z.2.2.2.2.2.1) (by omega)))) (vx_cwSW 4 hts gL_refusesAny_L_call rfl rfl rfl (by decide +kernel) ⟨Nat.le_of_ble_eq_true rfl, Nat.le_of_ble_eq_true rfl⟩) hP hD hK hS hA hN hE hO (by decide) rfl rfl rfl rfl hl.1 rfl (Nat.le_of_ble_eq_true rfl) dL_refusesAny_314 ⟨Nat.le_of_ble_eq_true rfl, Nat.le_of_ble_eq_true rfl⟩ (fun H locs hP hD hS => ?_)
                  refine W.widen (k := 15) (n := 90) (Nat.le_refl _) (Nat.le_refl _) ?_
                  refine lv_bipush (v := (-10)) hx hb dL_refusesAny_317 (by decide) ?_
                  refine lv_icmp_ne (tgt := 385) hx hb dL_refusesAny_319 (by decide) (fun h => absurd h (by decide)) (fun _ => ?_)
                  have J343 : ∀ (H : Heap) (locs : List Loc) (hP : va_P D vwCl (fmB (LB cI cC cJ cZ cQ x0 a0 a1 a2 a3 a4 a5 a6 v0 v1 t0 t1 h0 u0 u1 pa rg z nx cnt S wd hv hk hc) [0, 1, 2, 3, 4, 5, 6, 7]) H) (hD : va_D A (fmB (LB cI cC cJ cZ cQ x0 a0 a1 a2 a3 a4 a5 a6 v0 v1 t0 t1 h0 u0 u1 pa rg z nx cnt S wd hv hk hc) [0, 1, 2, 3, 4, 5, 6, 7])) (hS : va_S A s.heap H locs) (ls : Array Slot) (hl : lv_has ls 7 [(5, .int (nI (12 + (n % 99)))), (4, .int 2049), (3, .int 100), (2, .int (nI (65536 + (n % 99)))), (0, .ref x0), (1, .int (nI n))]), W p l e rmmL_refusesAny1 s m args below meth c H locs 16 96 (MQ below (oQi D (fun (r9 : Int32) (u9 : OS) => 1 = r9 ∧ z = u9.1 ∧ nx = u9.2.1 ∧ cnt = u9.2.2.1 ∧ S = u9.2.2.2.1) (fun (u9 : OS) => fmB (LB cI cC cJ cZ cQ x0 a0 a1 a2 a3 a4 a5 a6 v0 v1 t0 t1 h0 u0 u1 pa rg u9.1 u9.2.1 u9.2.2.1 u9.2.2.2.1 u9.2.2.2.2.1 u9.2.2.2.2.2.1 u9.2.2.2.2.2.2.1 u9.2.2.2.2.2.2.2) [0, 1, 2, 3, 4, 5, 6, 7]) A) args s 27 162 A) (F0 m 343 ls []) := by
                    intro H locs hP hD hS ls hl
                    refine lv_aload_n hx hb dL_refusesAny_343 rfl (lv_at hl 4 rfl) ?_
                    refine lv_bipush (v := 8) hx hb dL_refusesAny_344 (by decide) ?_
                    refine lv_iload_n hx hb dL_refusesAny_346 rfl (lv_at hl 5 rfl) ?_
                    refine lv_iconst (v := 2) hx hb dL_refusesAny_347 (by decide) ?_
                    refine lv_irem hx hb dL_refusesAny_348 (by decide) ?_
                    refine k_topi (y := nI (n % 2)) (pk_rem (a := n) (d := 2) (by omega) (by omega) (by omega)) ?_
                    refine lv_if_ne (tgt := 357) hx hb dL_refusesAny_349 (by decide) (fun c_349 => ?_) (fun c_349 => ?_)
                    · have c_349 : ¬ (n % 2) = 0 := fun h => c_349 ((nI_eq (a := (n % 2)) (b := 0) (by omega) (by omega)).mpr h)
                      refine lv_bipush (v := 127) hx hb dL_refusesAny_357 (by decide) ?_
                      refine lv_iconst (v := 0) hx hb dL_refusesAny_359 (by decide) ?_
                      refine lq_sb (B0 := (LB cI cC cJ cZ cQ x0 a0 a1 a2 a3 a4 a5 a6 v0 v1 t0 t1 h0 u0 u1 pa rg z nx cnt S wd hv hk hc)) (B1 := (LB cI cC cJ cZ cQ x0 a0 a1 a2 a3 a4 a5 a6 v0 v1 t0 t1 h0 u0 u1 pa rg z nx cnt S wd hv hk hc)) (U := [0, 1, 2, 3, 4, 5, 6, 7]) (isC := [0, 5]) (isR := [1, 2, 3, 4, 6, 7]) (As := [.ref x0, .int 8, .int 127, .int 0]) (rest := []) ⟨hx, hb, hml, hown, hts⟩ (kL_append_bad l hst D H.size cI cC cJ cZ cQ x0 v0 t0 h0 u0 a0 a1 a2 a3 a4 a5 a6 z t1 0 (fun _ => 0) 127 0 (by decide)) (vx_cwSW 4 hts gL_refusesAny_L_call rfl rfl rfl (by decide +kernel) ⟨Nat.le_of_ble_eq_true rfl, Nat.le_of_ble_eq_true rfl⟩) hP hD hK hS hA hN hE hO (by decide) rfl rfl rfl rfl hl.1 rfl (Nat.le_of_ble_eq_true rfl) dL_refusesAny_360 ⟨Nat.le_of_ble_eq_true rfl, Nat.le_of_ble_eq_true rfl⟩ (fun H locs hP hD hS => ?_)
                      refine W.widen (k := 17) (n := 102) (Nat.le_refl _) (Nat.le_refl _) ?_
                      refine lv_bipush (v := (-11)) hx hb dL_refusesAny_363 (by decide) ?_
                      refine lv_icmp_ne (tgt := 385) hx hb dL_refusesAny_365 (by decide) (fun h => absurd h (by decide)) (fun _ => ?_)
                      refine lv_aload_n hx hb dL_refusesAny_368 rfl (lv_at hl 4 rfl) ?_
                      refine lv_bipush (v := 9) hx hb dL_refusesAny_369 (by decide) ?_
                      refine lv_iconst (v := 0) hx hb dL_refusesAny_371 (by decide) ?_
                      refine lv_iconst (v := 0) hx hb dL_refusesAny_372 (by decide) ?_
                      refine lq_sb (B0 := (LB cI cC cJ cZ cQ x0 a0 a1 a2 a3 a4 a5 a6 v0 v1 t0 t1 h0 u0 u1 pa rg z nx cnt S wd hv hk hc)) (B1 := (LB cI cC cJ cZ cQ x0 a0 a1 a2 a3 a4 a5 a6 v0 v1 t0 t1 h0 u0 u1 pa rg z nx cnt S wd hv hk hc)) (U := [0, 1, 2, 3, 4, 5, 6, 7]) (isC := [0, 5]) (isR := [1, 2, 3, 4, 6, 7]) (As := [.ref x0, .int 9, .int 0, .int 0]) (rest := []) ⟨hx, hb, hml, hown, hts⟩ (kL_load_bad l hst D H.size cI cC cJ cZ cQ x0 v0 t0 h0 u0 a0 a1 a2 a3 a4 a5 a6 z t1 0 (fun _ => 0) 0 0 (by omega) (by decide)) (vx_cwSW 4 hts gL_refusesAny_L_call rfl rfl rfl (by decide +kernel) ⟨Nat.le_of_ble_eq_true rfl, Nat.le_of_ble_eq_true rfl⟩) hP hD hK hS hA hN hE hO (by decide) rfl rfl rfl rfl hl.1 rfl (Nat.le_of_ble_eq_true rfl) dL_refusesAny_373 ⟨Nat.le_of_ble_eq_true rfl, Nat.le_of_ble_eq_true rfl⟩ (fun H locs hP hD hS => ?_)
                      refine W.widen (k := 18) (n := 108) (Nat.le_refl _) (Nat.le_refl _) ?_
                      refine lv_bipush (v := (-11)) hx hb dL_refusesAny_376 (by decide) ?_
                      refine lv_icmp_ne (tgt := 385) hx hb dL_refusesAny_378 (by decide) (fun h => absurd h (by decide)) (fun _ => ?_)
                      refine lv_iconst (v := 1) hx hb dL_refusesAny_381 (by decide) ?_
                      refine lv_goto (tgt := 386) hx hb dL_refusesAny_382 (by decide) ?_
                      refine lv_istore (lv' := [(6, .int 1), (5, .int (nI (12 + (n % 99)))), (4, .int 2049), (3, .int 100), (2, .int (nI (65536 + (n % 99)))), (0, .ref x0), (1, .int (nI n))]) hx hb dL_refusesAny_386 hl (by decide) rfl (fun ls hl => ?_)
                      refine lv_iload hx hb dL_refusesAny_388 (lv_at hl 0 rfl) ?_
                      refine lv_if_eq (tgt := 516) hx hb dL_refusesAny_390 (by decide) (fun h => absurd h (by decide)) (fun _ => ?_)
                      refine lv_aload_n hx hb dL_refusesAny_393 rfl (lv_at hl 5 rfl) ?_
                      refine lv_iconst (v := 0) hx hb dL_refusesAny_394 (by decide) ?_
                      refine lv_iload hx hb dL_refusesAny_395 (lv_at hl 1 rfl) ?_
                      refine lq_sb (B0 := (LB cI cC cJ cZ cQ x0 a0 a1 a2 a3 a4 a5 a6 v0 v1 t0 t1 h0 u0 u1 pa rg z nx cnt S wd hv hk hc)) (B1 := (LB cI cC cJ cZ cQ x0 a0 a1 a2 a3 a4 a5 a6 v0 v1 t0 t1 h0 u0 u1 pa rg z nx cnt S wd hv hk hc)) (U := [0, 1, 2, 3, 4, 5, 6, 7]) (isC := [0, 1]) (isR := [2, 3, 4, 5, 6, 7]) (As := [.ref x0, .int 0, .int (nI (12 + (n % 99)))]) (rest := []) ⟨hx, hb, hml, hown, hts⟩ (kL_weight_bad l hst D H.size cI cC cJ cZ cQ x0 v0 t0 h0 u0 a0 a1 a2 a3 a4 a5 a6 z (nI (12 + (n % 99))) (Or.inr (bd_no n (c := z.2.2.2.2.2.1) (by omega)))) (vx_cwSW 3 hts gL_refusesAny_L_ask rfl rfl rfl (by decide +kernel) ⟨Nat.le_of_ble_eq_true rfl, Nat.le_of_ble_eq_true rfl⟩) hP hD hK hS hA hN hE hO (by decide) rfl rfl rfl rfl hl.1 rfl (Nat.le_of_ble_eq_true rfl) dL_refusesAny_397 ⟨Nat.le_of_ble_eq_true rfl, Nat.le_of_ble_eq_true rfl⟩ (fun H locs hP hD hS => ?_)
                      refine W.widen (k := 19) (n := 114) (Nat.le_refl _) (Nat.le_refl _) ?_
                      refine lv_ldc hx hb hown (hts (Cond.constant RL 76 (-1000000)) (List.mem_of_getElem? (i := 2) rfl)) dL_refusesAny_400 ?_
                      refine lv_icmp_ne (tgt := 516) hx hb dL_refusesAny_402 (by decide) (fun h => absurd h (by decide)) (fun _ => ?_)
                      refine lv_aload_n hx hb dL_refusesAny_405 rfl (lv_at hl 5 rfl) ?_
                      refine lv_iconst (v := 0) hx hb dL_refusesAny_406 (by decide) ?_
                      refine lv_aload_n hx hb dL_refusesAny_407 rfl (lv_at hl 5 rfl) ?_
                      refine lq_v (B0 := (LB cI cC cJ cZ cQ x0 a0 a1 a2 a3 a4 a5 a6 v0 v1 t0 t1 h0 u0 u1 pa rg z nx cnt S wd hv hk hc)) (B1 := (LB cI cC cJ cZ cQ x0 a0 a1 a2 a3 a4 a5 a6 v0 v1 t0 t1 h0 u0 u1 pa rg z nx cnt S wd hv hk hc)) (U := [0, 1, 2, 3, 4, 5, 6, 7]) (isC := [0, 1]) (isR := [2, 3, 4, 5, 6, 7]) (As := []) (rest := [.int 0, .ref x0]) ⟨hx, hb, hml, hown, hts⟩ (kX7_weights l D H.size cI cC cJ cZ cQ x0 v0 t0 h0 u0 a0 a1 a2 a3 a4 a5 a6 z) (cwV 0 hts gL_refusesAny_X7_weights rfl rfl rfl (by decide +kernel) ⟨Nat.le_of_ble_eq_true rfl, Nat.le_of_ble_eq_true rfl⟩) hP hD hK hS hA hN (by decide) rfl rfl rfl 0 7 rfl rfl rfl rfl hl.1 rfl (Nat.le_of_ble_eq_true rfl) dL_refusesAny_408 ⟨Nat.le_of_ble_eq_true rfl, Nat.le_of_ble_eq_true rfl⟩ (fun H locs hP hD hS => ?_)
                      refine lq_sb (B0 := (LB cI cC cJ cZ cQ x0 a0 a1 a2 a3 a4 a5 a6 v0 v1 t0 t1 h0 u0 u1 pa rg z nx cnt S wd hv hk hc)) (B1 := (LB cI cC cJ cZ cQ x0 a0 a1 a2 a3 a4 a5 a6 v0 v1 t0 t1 h0 u0 u1 pa rg z nx cnt S wd hv hk hc)) (U := [0, 1, 2, 3, 4, 5, 6, 7]) (isC := [0, 1]) (isR := [2, 3, 4, 5, 6, 7]) (As := [.ref x0, .int 0, .int (nI z.2.2.2.2.2.1)]) (rest := []) ⟨hx, hb, hml, hown, hts⟩ (kL_weight_bad l hst D H.size cI cC cJ cZ cQ x0 v0 t0 h0 u0 a0 a1 a2 a3 a4 a5 a6 z (nI z.2.2.2.2.2.1) (Or.inr (n_refl _))) (vx_cwSW 3 hts gL_refusesAny_L_ask rfl rfl rfl (by decide +kernel) ⟨Nat.le_of_ble_eq_true rfl, Nat.le_of_ble_eq_true rfl⟩) hP hD hK hS hA hN hE hO (by decide) rfl rfl rfl rfl hl.1 rfl (Nat.le_of_ble_eq_true rfl) dL_refusesAny_411 ⟨Nat.le_of_ble_eq_true rfl, Nat.le_of_ble_eq_true rfl⟩ (fun H locs hP hD hS => ?_)
                      refine W.widen (k := 20) (n := 120) (Nat.le_refl _) (Nat.le_refl _) ?_
                      refine lv_ldc hx hb hown (hts (Cond.constant RL 76 (-1000000)) (List.mem_of_getElem? (i := 2) rfl)) dL_refusesAny_414 ?_
                      refine lv_icmp_ne (tgt := 516) hx hb dL_refusesAny_416 (by decide) (fun h => absurd h (by decide)) (fun _ => ?_)
                      refine lv_aload_n hx hb dL_refusesAny_419 rfl (lv_at hl 5 rfl) ?_
                      refine lv_iconst (v := 1) hx hb dL_refusesAny_420 (by decide) ?_
                      refine lv_iconst (v := (-1)) hx hb dL_refusesAny_421 (by decide) ?_
                      refine lq_sb (B0 := (LB cI cC cJ cZ cQ x0 a0 a1 a2 a3 a4 a5 a6 v0 v1 t0 t1 h0 u0 u1 pa rg z nx cnt S wd hv hk hc)) (B1 := (LB cI cC cJ cZ cQ x0 a0 a1 a2 a3 a4 a5 a6 v0 v1 t0 t1 h0 u0 u1 pa rg z nx cnt S wd hv hk hc)) (U := [0, 1, 2, 3, 4, 5, 6, 7]) (isC := [0, 1]) (isR := [2, 3, 4, 5, 6, 7]) (As := [.ref x0, .int 1, .int (-1)]) (rest := []) ⟨hx, hb, hml, hown, hts⟩ (kL_code_bad l hst D H.size cI cC cJ cZ cQ x0 v0 t0 h0 u0 a0 a1 a2 a3 a4 a5 a6 z (-1) (Or.inl (by decide))) (vx_cwSW 3 hts gL_refusesAny_L_ask rfl rfl rfl (by decide +kernel) ⟨Nat.le_of_ble_eq_true rfl, Nat.le_of_ble_eq_true rfl⟩) hP hD hK hS hA hN hE hO (by decide) rfl rfl rfl rfl hl.1 rfl (Nat.le_of_ble_eq_true rfl) dL_refusesAny_422 ⟨Nat.le_of_ble_eq_true rfl, Nat.le_of_ble_eq_true rfl⟩ (fun H locs hP hD hS => ?_)
                      refine W.widen (k := 21) (n := 126) (Nat.le_refl _) (Nat.le_refl _) ?_
                      refine lv_ldc hx hb hown (hts (Cond.constant RL 76 (-1000000)) (List.mem_of_getElem? (i := 2) rfl)) dL_refusesAny_425 ?_
                      refine lv_icmp_ne (tgt := 516) hx hb dL_refusesAny_427 (by decide) (fun h => absurd h (by decide)) (fun _ => ?_)
                      refine lv_aload_n hx hb dL_refusesAny_430 rfl (lv_at hl 5 rfl) ?_
                      refine lv_iconst (v := 1) hx hb dL_refusesAny_431 (by decide) ?_
                      refine lv_aload_n hx hb dL_refusesAny_432 rfl (lv_at hl 5 rfl) ?_
                      refine lq_v (B0 := (LB cI cC cJ cZ cQ x0 a0 a1 a2 a3 a4 a5 a6 v0 v1 t0 t1 h0 u0 u1 pa rg z nx cnt S wd hv hk hc)) (B1 := (LB cI cC cJ cZ cQ x0 a0 a1 a2 a3 a4 a5 a6 v0 v1 t0 t1 h0 u0 u1 pa rg z nx cnt S wd hv hk hc)) (U := [0, 1, 2, 3, 4, 5, 6, 7]) (isC := [0, 1]) (isR := [2, 3, 4, 5, 6, 7]) (As := []) (rest := [.int 1, .ref x0]) ⟨hx, hb, hml, hown, hts⟩ (kX7_logged l D H.size cI cC cJ cZ cQ x0 v0 t0 h0 u0 a0 a1 a2 a3 a4 a5 a6 z) (cwV 0 hts gL_refusesAny_X7_logged rfl rfl rfl (by decide +kernel) ⟨Nat.le_of_ble_eq_true rfl, Nat.le_of_ble_eq_true rfl⟩) hP hD hK hS hA hN (by decide) rfl rfl rfl 0 7 rfl rfl rfl rfl hl.1 rfl (Nat.le_of_ble_eq_true rfl) dL_refusesAny_433 ⟨Nat.le_of_ble_eq_true rfl, Nat.le_of_ble_eq_true rfl⟩ (fun H locs hP hD hS => ?_)
                      refine lq_sb (B0 := (LB cI cC cJ cZ cQ x0 a0 a1 a2 a3 a4 a5 a6 v0 v1 t0 t1 h0 u0 u1 pa rg z nx cnt S wd hv hk hc)) (B1 := (LB cI cC cJ cZ cQ x0 a0 a1 a2 a3 a4 a5 a6 v0 v1 t0 t1 h0 u0 u1 pa rg z nx cnt S wd hv hk hc)) (U := [0, 1, 2, 3, 4, 5, 6, 7]) (isC := [0, 1]) (isR := [2, 3, 4, 5, 6, 7]) (As := [.ref x0, .int 1, .int (nI z.2.2.2.2.2.2.1)]) (rest := []) ⟨hx, hb, hml, hown, hts⟩ (kL_code_bad l hst D H.size cI cC cJ cZ cQ x0 v0 t0 h0 u0 a0 a1 a2 a3 a4 a5 a6 z (nI z.2.2.2.2.2.2.1) (Or.inr (n_refl _))) (vx_cwSW 3 hts gL_refusesAny_L_ask rfl rfl rfl (by decide +kernel) ⟨Nat.le_of_ble_eq_true rfl, Nat.le_of_ble_eq_true rfl⟩) hP hD hK hS hA hN hE hO (by decide) rfl rfl rfl rfl hl.1 rfl (Nat.le_of_ble_eq_true rfl) dL_refusesAny_436 ⟨Nat.le_of_ble_eq_true rfl, Nat.le_of_ble_eq_true rfl⟩ (fun H locs hP hD hS => ?_)
                      refine W.widen (k := 22) (n := 132) (Nat.le_refl _) (Nat.le_refl _) ?_
                      refine lv_ldc hx hb hown (hts (Cond.constant RL 76 (-1000000)) (List.mem_of_getElem? (i := 2) rfl)) dL_refusesAny_439 ?_
                      refine lv_icmp_ne (tgt := 516) hx hb dL_refusesAny_441 (by decide) (fun h => absurd h (by decide)) (fun _ => ?_)
                      refine lv_aload_n hx hb dL_refusesAny_444 rfl (lv_at hl 5 rfl) ?_
                      refine lv_iconst (v := 2) hx hb dL_refusesAny_445 (by decide) ?_
                      refine lv_aload_n hx hb dL_refusesAny_446 rfl (lv_at hl 5 rfl) ?_
                      refine lq_v (B0 := (LB cI cC cJ cZ cQ x0 a0 a1 a2 a3 a4 a5 a6 v0 v1 t0 t1 h0 u0 u1 pa rg z nx cnt S wd hv hk hc)) (B1 := (LB cI cC cJ cZ cQ x0 a0 a1 a2 a3 a4 a5 a6 v0 v1 t0 t1 h0 u0 u1 pa rg z nx cnt S wd hv hk hc)) (U := [0, 1, 2, 3, 4, 5, 6, 7]) (isC := [0, 1]) (isR := [2, 3, 4, 5, 6, 7]) (As := []) (rest := [.int 2, .ref x0]) ⟨hx, hb, hml, hown, hts⟩ (kX7_logged l D H.size cI cC cJ cZ cQ x0 v0 t0 h0 u0 a0 a1 a2 a3 a4 a5 a6 z) (cwV 0 hts gL_refusesAny_X7_logged rfl rfl rfl (by decide +kernel) ⟨Nat.le_of_ble_eq_true rfl, Nat.le_of_ble_eq_true rfl⟩) hP hD hK hS hA hN (by decide) rfl rfl rfl 0 7 rfl rfl rfl rfl hl.1 rfl (Nat.le_of_ble_eq_true rfl) dL_refusesAny_447 ⟨Nat.le_of_ble_eq_true rfl, Nat.le_of_ble_eq_true rfl⟩ (fun H locs hP hD hS => ?_)
                      refine lq_sb (B0 := (LB cI cC cJ cZ cQ x0 a0 a1 a2 a3 a4 a5 a6 v0 v1 t0 t1 h0 u0 u1 pa rg z nx cnt S wd hv hk hc)) (B1 := (LB cI cC cJ cZ cQ x0 a0 a1 a2 a3 a4 a5 a6 v0 v1 t0 t1 h0 u0 u1 pa rg z nx cnt S wd hv hk hc)) (U := [0, 1, 2, 3, 4, 5, 6, 7]) (isC := [0, 1]) (isR := [2, 3, 4, 5, 6, 7]) (As := [.ref x0, .int 2, .int (nI z.2.2.2.2.2.2.1)]) (rest := []) ⟨hx, hb, hml, hown, hts⟩ (kL_kept_bad l hst D H.size cI cC cJ cZ cQ x0 v0 t0 h0 u0 a0 a1 a2 a3 a4 a5 a6 z (nI z.2.2.2.2.2.2.1) (Or.inr (n_refl _))) (vx_cwSW 3 hts gL_refusesAny_L_ask rfl rfl rfl (by decide +kernel) ⟨Nat.le_of_ble_eq_true rfl, Nat.le_of_ble_eq_true rfl⟩) hP hD hK hS hA hN hE hO (by decide) rfl rfl rfl rfl hl.1 rfl (Nat.le_of_ble_eq_true rfl) dL_refusesAny_450 ⟨Nat.le_of_ble_eq_true rfl, Nat.le_of_ble_eq_true rfl⟩ (fun H locs hP hD hS => ?_)
                      refine W.widen (k := 23) (n := 138) (Nat.le_refl _) (Nat.le_refl _) ?_
                      refine lv_ldc hx hb hown (hts (Cond.constant RL 76 (-1000000)) (List.mem_of_getElem? (i := 2) rfl)) dL_refusesAny_453 ?_
                      refine lv_icmp_ne (tgt := 516) hx hb dL_refusesAny_455 (by decide) (fun h => absurd h (by decide)) (fun _ => ?_)
                      refine lv_aload_n hx hb dL_refusesAny_458 rfl (lv_at hl 5 rfl) ?_
                      refine lv_iconst (v := 3) hx hb dL_refusesAny_459 (by decide) ?_
                      refine lv_bipush (v := 8) hx hb dL_refusesAny_460 (by decide) ?_
                      refine lq_sb (B0 := (LB cI cC cJ cZ cQ x0 a0 a1 a2 a3 a4 a5 a6 v0 v1 t0 t1 h0 u0 u1 pa rg z nx cnt S wd hv hk hc)) (B1 := (LB cI cC cJ cZ cQ x0 a0 a1 a2 a3 a4 a5 a6 v0 v1 t0 t1 h0 u0 u1 pa rg z nx cnt S wd hv hk hc)) (U := [0, 1, 2, 3, 4, 5, 6, 7]) (isC := [0, 1]) (isR := [2, 3, 4, 5, 6, 7]) (As := [.ref x0, .int 3, .int 8]) (rest := []) ⟨hx, hb, hml, hown, hts⟩ (kL_error_bad l hst D H.size cI cC cJ cZ cQ x0 v0 t0 h0 u0 a0 a1 a2 a3 a4 a5 a6 z 8 (Or.inr (n_le z.2.2.2.2.2.2.1 8 hlz (by omega)))) (vx_cwSW 3 hts gL_refusesAny_L_ask rfl rfl rfl (by decide +kernel) ⟨Nat.le_of_ble_eq_true rfl, Nat.le_of_ble_eq_true rfl⟩) hP hD hK hS hA hN hE hO (by decide) rfl rfl rfl rfl hl.1 rfl (Nat.le_of_ble_eq_true rfl) dL_refusesAny_462 ⟨Nat.le_of_ble_eq_true rfl, Nat.le_of_ble_eq_true rfl⟩ (fun H locs hP hD hS => ?_)
                      refine W.widen (k := 24) (n := 144) (Nat.le_refl _) (Nat.le_refl _) ?_
                      refine lv_ldc hx hb hown (hts (Cond.constant RL 76 (-1000000)) (List.mem_of_getElem? (i := 2) rfl)) dL_refusesAny_465 ?_
                      refine lv_icmp_ne (tgt := 516) hx hb dL_refusesAny_467 (by decide) (fun h => absurd h (by decide)) (fun _ => ?_)
                      refine lv_aload_n hx hb dL_refusesAny_470 rfl (lv_at hl 5 rfl) ?_
                      refine lv_iconst (v := 4) hx hb dL_refusesAny_471 (by decide) ?_
                      refine lv_iload_n hx hb dL_refusesAny_472 rfl (lv_at hl 4 rfl) ?_
                      refine lq_sb (B0 := (LB cI cC cJ cZ cQ x0 a0 a1 a2 a3 a4 a5 a6 v0 v1 t0 t1 h0 u0 u1 pa rg z nx cnt S wd hv hk hc)) (B1 := (LB cI cC cJ cZ cQ x0 a0 a1 a2 a3 a4 a5 a6 v0 v1 t0 t1 h0 u0 u1 pa rg z nx cnt S wd hv hk hc)) (U := [0, 1, 2, 3, 4, 5, 6, 7]) (isC := [0]) (isR := [1, 2, 3, 4, 5, 6, 7]) (As := [.ref x0, .int 4, .int (nI (65536 + (n % 99)))]) (rest := []) ⟨hx, hb, hml, hown, hts⟩ (kL_ideal_bad l hst D H.size cI cC cJ cZ cQ x0 v0 t0 h0 u0 a0 a1 a2 a3 a4 a5 a6 z (nI (65536 + (n % 99))) (Or.inr (bd_hi n))) (vx_cwSW 3 hts gL_refusesAny_L_ask rfl rfl rfl (by decide +kernel) ⟨Nat.le_of_ble_eq_true rfl, Nat.le_of_ble_eq_true rfl⟩) hP hD hK hS hA hN hE hO (by decide) rfl rfl rfl rfl hl.1 rfl (Nat.le_of_ble_eq_true rfl) dL_refusesAny_473 ⟨Nat.le_of_ble_eq_true rfl, Nat.le_of_ble_eq_true rfl⟩ (fun H locs hP hD hS => ?_)
                      refine W.widen (k := 25) (n := 150) (Nat.le_refl _) (Nat.le_refl _) ?_
                      refine lv_ldc hx hb hown (hts (Cond.constant RL 77 (-1000001)) (List.mem_of_getElem? (i := 3) rfl)) dL_refusesAny_476 ?_
                      refine lv_icmp_ne (tgt := 516) hx hb dL_refusesAny_478 (by decide) (fun h => absurd h (by decide)) (fun _ => ?_)
                      refine lv_aload_n hx hb dL_refusesAny_481 rfl (lv_at hl 5 rfl) ?_
                      refine lv_iconst (v := 5) hx hb dL_refusesAny_482 (by decide) ?_
                      refine lv_iload hx hb dL_refusesAny_483 (lv_at hl 1 rfl) ?_
                      refine lq_sb (B0 := (LB cI cC cJ cZ cQ x0 a0 a1 a2 a3 a4 a5 a6 v0 v1 t0 t1 h0 u0 u1 pa rg z nx cnt S wd hv hk hc)) (B1 := (LB cI cC cJ cZ cQ x0 a0 a1 a2 a3 a4 a5 a6 v0 v1 t0 t1 h0 u0 u1 pa rg z nx cnt S wd hv hk hc)) (U := [0, 1, 2, 3, 4, 5, 6, 7]) (isC := [0, 1]) (isR := [2, 3, 4, 5, 6, 7]) (As := [.ref x0, .int 5, .int (nI (12 + (n % 99)))]) (rest := []) ⟨hx, hb, hml, hown, hts⟩ (kL_mended_bad l hst D H.size cI cC cJ cZ cQ x0 v0 t0 h0 u0 a0 a1 a2 a3 a4 a5 a6 z (nI (12 + (n % 99))) (Or.inr (bd_no n (c := z.2.2.2.2.2.1) (by omega)))) (vx_cwSW 3 hts gL_refusesAny_L_ask rfl rfl rfl (by decide +kernel) ⟨Nat.le_of_ble_eq_true rfl, Nat.le_of_ble_eq_true rfl⟩) hP hD hK hS hA hN hE hO (by decide) rfl rfl rfl rfl hl.1 rfl (Nat.le_of_ble_eq_true rfl) dL_refusesAny_485 ⟨Nat.le_of_ble_eq_true rfl, Nat.le_of_ble_eq_true rfl⟩ (fun H locs hP hD hS => ?_)
                      refine W.widen (k := 26) (n := 156) (Nat.le_refl _) (Nat.le_refl _) ?_
                      refine lv_ldc hx hb hown (hts (Cond.constant RL 76 (-1000000)) (List.mem_of_getElem? (i := 2) rfl)) dL_refusesAny_488 ?_
                      refine lv_icmp_ne (tgt := 516) hx hb dL_refusesAny_490 (by decide) (fun h => absurd h (by decide)) (fun _ => ?_)
                      refine lv_aload_n hx hb dL_refusesAny_493 rfl (lv_at hl 5 rfl) ?_
                      refine lv_bipush (v := 6) hx hb dL_refusesAny_494 (by decide) ?_
                      refine lv_iload_n hx hb dL_refusesAny_496 rfl (lv_at hl 4 rfl) ?_
                      refine lq_sb (B0 := (LB cI cC cJ cZ cQ x0 a0 a1 a2 a3 a4 a5 a6 v0 v1 t0 t1 h0 u0 u1 pa rg z nx cnt S wd hv hk hc)) (B1 := (LB cI cC cJ cZ cQ x0 a0 a1 a2 a3 a4 a5 a6 v0 v1 t0 t1 h0 u0 u1 pa rg z nx cnt S wd hv hk hc)) (U := [0, 1, 2, 3, 4, 5, 6, 7]) (isC := [0]) (isR := [1, 2, 3, 4, 5, 6, 7]) (As := [.ref x0, .int 6, .int (nI (65536 + (n % 99)))]) (rest := []) ⟨hx, hb, hml, hown, hts⟩ (kL_ticksToSettle_bad l hst D H.size cI cC cJ cZ cQ x0 v0 t0 h0 u0 a0 a1 a2 a3 a4 a5 a6 z (nI (65536 + (n % 99))) (Or.inr (bd_hi n))) (vx_cwSW 3 hts gL_refusesAny_L_ask rfl rfl rfl (by decide +kernel) ⟨Nat.le_of_ble_eq_true rfl, Nat.le_of_ble_eq_true rfl⟩) hP hD hK hS hA hN hE hO (by decide) rfl rfl rfl rfl hl.1 rfl (Nat.le_of_ble_eq_true rfl) dL_refusesAny_497 ⟨Nat.le_of_ble_eq_true rfl, Nat.le_of_ble_eq_true rfl⟩ (fun H locs hP hD hS => ?_)
                      refine W.widen (k := 27) (n := 162) (Nat.le_refl _) (Nat.le_refl _) ?_
                      refine lv_ldc hx hb hown (hts (Cond.constant RL 77 (-1000001)) (List.mem_of_getElem? (i := 3) rfl)) dL_refusesAny_500 ?_
                      refine lv_icmp_ne (tgt := 516) hx hb dL_refusesAny_502 (by decide) (fun h => absurd h (by decide)) (fun _ => ?_)
                      refine lv_aload_n hx hb dL_refusesAny_505 rfl (lv_at hl 5 rfl) ?_
                      refine lq_v (B0 := (LB cI cC cJ cZ cQ x0 a0 a1 a2 a3 a4 a5 a6 v0 v1 t0 t1 h0 u0 u1 pa rg z nx cnt S wd hv hk hc)) (B1 := (LB cI cC cJ cZ cQ x0 a0 a1 a2 a3 a4 a5 a6 v0 v1 t0 t1 h0 u0 u1 pa rg z nx cnt S wd hv hk hc)) (U := [0, 1, 2, 3, 4, 5, 6, 7]) (isC := [0, 5]) (isR := [1, 2, 3, 4, 6, 7]) (As := []) (rest := []) ⟨hx, hb, hml, hown, hts⟩ (kX7_firstError l D H.size cI cC cJ cZ cQ x0 v0 t0 h0 u0 a0 a1 a2 a3 a4 a5 a6 z t1 0 (fun _ => 0) (by omega)) (cwV 0 hts gL_refusesAny_X7_firstError rfl rfl rfl (by decide +kernel) ⟨Nat.le_of_ble_eq_true rfl, Nat.le_of_ble_eq_true rfl⟩) hP hD hK hS hA hN (by decide) rfl rfl rfl 0 7 rfl rfl rfl rfl hl.1 rfl (Nat.le_of_ble_eq_true rfl) dL_refusesAny_506 ⟨Nat.le_of_ble_eq_true rfl, Nat.le_of_ble_eq_true rfl⟩ (fun H locs hP hD hS => ?_)
                      refine k_topi (y := 0) rfl ?_
                      refine lv_if_ne (tgt := 516) hx hb dL_refusesAny_509 (by decide) (fun h => absurd h (by decide)) (fun _ => ?_)
                      refine lv_iconst (v := 1) hx hb dL_refusesAny_512 (by decide) ?_
                      refine lv_goto (tgt := 517) hx hb dL_refusesAny_513 (by decide) ?_
                      exact kr_oz (u := (z, nx, cnt, S, wd, hv, hk, hc)) (v := 1) hx hb hr hlocks rfl hP hD hS ⟨rfl, rfl, rfl, rfl, rfl⟩ dL_refusesAny_517
                    · have c_349 : (n % 2) = 0 := (nI_eq (a := (n % 2)) (b := 0) (by omega) (by omega)).mp c_349
                      omega
                  refine lv_aload_n hx hb dL_refusesAny_322 rfl (lv_at hl 4 rfl) ?_
                  refine lq_v (B0 := (LB cI cC cJ cZ cQ x0 a0 a1 a2 a3 a4 a5 a6 v0 v1 t0 t1 h0 u0 u1 pa rg z nx cnt S wd hv hk hc)) (B1 := (LB cI cC cJ cZ cQ x0 a0 a1 a2 a3 a4 a5 a6 v0 v1 t0 t1 h0 u0 u1 pa rg z nx cnt S wd hv hk hc)) (U := [0, 1, 2, 3, 4, 5, 6, 7]) (isC := [0, 1]) (isR := [2, 3, 4, 5, 6, 7]) (As := []) (rest := []) ⟨hx, hb, hml, hown, hts⟩ (kX7_weights l D H.size cI cC cJ cZ cQ x0 v0 t0 h0 u0 a0 a1 a2 a3 a4 a5 a6 z) (cwV 0 hts gL_refusesAny_X7_weights rfl rfl rfl (by decide +kernel) ⟨Nat.le_of_ble_eq_true rfl, Nat.le_of_ble_eq_true rfl⟩) hP hD hK hS hA hN (by decide) rfl rfl rfl 0 7 rfl rfl rfl rfl hl.1 rfl (Nat.le_of_ble_eq_true rfl) dL_refusesAny_323 ⟨Nat.le_of_ble_eq_true rfl, Nat.le_of_ble_eq_true rfl⟩ (fun H locs hP hD hS => ?_)
                  refine lv_iconst (v := 1) hx hb dL_refusesAny_326 (by decide) ?_
                  refine lv_icmp_gt (tgt := 343) hx hb dL_refusesAny_327 (by decide) (fun c_327 => ?_) (fun c_327 => ?_)
                  · have c_327 : 1 < z.2.2.2.2.2.1 := (nI_ltI (a := 1) (b := z.2.2.2.2.2.1) (by omega) (by omega)).mp c_327
                    refine W.widen (k := 16) (n := 96) (Nat.le_of_ble_eq_true rfl) (Nat.le_of_ble_eq_true rfl) ?_
                    exact J343 _ _ hP hD hS _ (lv_sub hl [0, 1, 2, 3, 4, 5] rfl)
                  · have c_327 : ¬ 1 < z.2.2.2.2.2.1 := fun h => c_327 ((nI_ltI (a := 1) (b := z.2.2.2.2.2.1) (by omega) (by omega)).mpr h)
                    refine lv_aload_n hx hb dL_refusesAny_330 rfl (lv_at hl 4 rfl) ?_
                    refine lv_bipush (v := 7) hx hb dL_refusesAny_331 (by decide) ?_
                    refine lv_iconst (v := 0) hx hb dL_refusesAny_333 (by decide) ?_
                    refine lv_iconst (v := 0) hx hb dL_refusesAny_334 (by decide) ?_
                    refine lq_sb (B0 := (LB cI cC cJ cZ cQ x0 a0 a1 a2 a3 a4 a5 a6 v0 v1 t0 t1 h0 u0 u1 pa rg z nx cnt S wd hv hk hc)) (B1 := (LB cI cC cJ cZ cQ x0 a0 a1 a2 a3 a4 a5 a6 v0 v1 t0 t1 h0 u0 u1 pa rg z nx cnt S wd hv hk hc)) (U := [0, 1, 2, 3, 4, 5, 6, 7]) (isC := [0, 1]) (isR := [2, 3, 4, 5, 6, 7]) (As := [.ref x0, .int 7, .int 0, .int 0]) (rest := []) ⟨hx, hb, hml, hown, hts⟩ (kL_removeWeight_bad2 l hst D H.size cI cC cJ cZ cQ x0 v0 t0 h0 u0 a0 a1 a2 a3 a4 a5 a6 z 0 0 (by decide) (n_pos hw1 (by omega)) (by omega)) (vx_cwSW 4 hts gL_refusesAny_L_call rfl rfl rfl (by decide +kernel) ⟨Nat.le_of_ble_eq_true rfl, Nat.le_of_ble_eq_true rfl⟩) hP hD hK hS hA hN hE hO (by decide) rfl rfl rfl rfl hl.1 rfl (Nat.le_of_ble_eq_true rfl) dL_refusesAny_335 ⟨Nat.le_of_ble_eq_true rfl, Nat.le_of_ble_eq_true rfl⟩ (fun H locs hP hD hS => ?_)
                    refine W.widen (k := 16) (n := 96) (Nat.le_refl _) (Nat.le_refl _) ?_
                    refine lv_bipush (v := (-12)) hx hb dL_refusesAny_338 (by decide) ?_
                    refine lv_icmp_ne (tgt := 385) hx hb dL_refusesAny_340 (by decide) (fun h => absurd h (by decide)) (fun _ => ?_)
                    exact J343 _ _ hP hD hS _ (lv_sub hl [0, 1, 2, 3, 4, 5] rfl)
                refine lv_aload_n hx hb dL_refusesAny_285 rfl (lv_at hl 4 rfl) ?_
                refine lq_v (B0 := (LB cI cC cJ cZ cQ x0 a0 a1 a2 a3 a4 a5 a6 v0 v1 t0 t1 h0 u0 u1 pa rg z nx cnt S wd hv hk hc)) (B1 := (LB cI cC cJ cZ cQ x0 a0 a1 a2 a3 a4 a5 a6 v0 v1 t0 t1 h0 u0 u1 pa rg z nx cnt S wd hv hk hc)) (U := [0, 1, 2, 3, 4, 5, 6, 7]) (isC := [0, 1]) (isR := [2, 3, 4, 5, 6, 7]) (As := []) (rest := []) ⟨hx, hb, hml, hown, hts⟩ (kX7_weights l D H.size cI cC cJ cZ cQ x0 v0 t0 h0 u0 a0 a1 a2 a3 a4 a5 a6 z) (cwV 0 hts gL_refusesAny_X7_weights rfl rfl rfl (by decide +kernel) ⟨Nat.le_of_ble_eq_true rfl, Nat.le_of_ble_eq_true rfl⟩) hP hD hK hS hA hN (by decide) rfl rfl rfl 0 7 rfl rfl rfl rfl hl.1 rfl (Nat.le_of_ble_eq_true rfl) dL_refusesAny_286 ⟨Nat.le_of_ble_eq_true rfl, Nat.le_of_ble_eq_true rfl⟩ (fun H locs hP hD hS => ?_)
                refine lv_bipush (v := 12) hx hb dL_refusesAny_289 (by decide) ?_
                refine lv_icmp_lt (tgt := 308) hx hb dL_refusesAny_291 (by decide) (fun c_291 => ?_) (fun c_291 => ?_)
                · have c_291 : z.2.2.2.2.2.1 < 12 := (nI_ltI (a := z.2.2.2.2.2.1) (b := 12) (by omega) (by omega)).mp c_291
                  refine W.widen (k := 14) (n := 84) (Nat.le_of_ble_eq_true rfl) (Nat.le_of_ble_eq_true rfl) ?_
                  exact J308 _ _ hP hD hS _ (lv_sub hl [0, 1, 2, 3, 4, 5] rfl)
                · have c_291 : ¬ z.2.2.2.2.2.1 < 12 := fun h => c_291 ((nI_ltI (a := z.2.2.2.2.2.1) (b := 12) (by omega) (by omega)).mpr h)
                  refine lv_aload_n hx hb dL_refusesAny_294 rfl (lv_at hl 4 rfl) ?_
                  refine lv_bipush (v := 6) hx hb dL_refusesAny_295 (by decide) ?_
                  refine lv_bipush (v := 12) hx hb dL_refusesAny_297 (by decide) ?_
                  refine lv_iconst (v := 5) hx hb dL_refusesAny_299 (by decide) ?_
                  refine lq_sb (B0 := (LB cI cC cJ cZ cQ x0 a0 a1 a2 a3 a4 a5 a6 v0 v1 t0 t1 h0 u0 u1 pa rg z nx cnt S wd hv hk hc)) (B1 := (LB cI cC cJ cZ cQ x0 a0 a1 a2 a3 a4 a5 a6 v0 v1 t0 t1 h0 u0 u1 pa rg z nx cnt S wd hv hk hc)) (U := [0, 1, 2, 3, 4, 5, 6, 7]) (isC := [0, 1]) (isR := [2, 3, 4, 5, 6, 7]) (As := [.ref x0, .int 6, .int 12, .int 5]) (rest := []) ⟨hx, hb, hml, hown, hts⟩ (kL_insertWeight_bad3 l hst D H.size cI cC cJ cZ cQ x0 v0 t0 h0 u0 a0 a1 a2 a3 a4 a5 a6 z 12 5 (by decide) (n_lt 12 (z.2.2.2.2.2.1 + 1) (by omega) (by omega)) (by decide) (by decide) (by omega)) (vx_cwSW 4 hts gL_refusesAny_L_call rfl rfl rfl (by decide +kernel) ⟨Nat.le_of_ble_eq_true rfl, Nat.le_of_ble_eq_true rfl⟩) hP hD hK hS hA hN hE hO (by decide) rfl rfl rfl rfl hl.1 rfl (Nat.le_of_ble_eq_true rfl) dL_refusesAny_300 ⟨Nat.le_of_ble_eq_true rfl, Nat.le_of_ble_eq_true rfl⟩ (fun H locs hP hD hS => ?_)
                  refine W.widen (k := 14) (n := 84) (Nat.le_refl _) (Nat.le_refl _) ?_
                  refine lv_bipush (v := (-12)) hx hb dL_refusesAny_303 (by decide) ?_
                  refine lv_icmp_ne (tgt := 385) hx hb dL_refusesAny_305 (by decide) (fun h => absurd h (by decide)) (fun _ => ?_)
                  exact J308 _ _ hP hD hS _ (lv_sub hl [0, 1, 2, 3, 4, 5] rfl)
              · have c_162 : (n % 2) = 0 := (nI_eq (a := (n % 2)) (b := 0) (by omega) (by omega)).mp c_162
                omega
            · have c_140 : (n % 2) = 0 := (nI_eq (a := (n % 2)) (b := 0) (by omega) (by omega)).mp c_140
              omega
          · have c_116 : (n % 2) = 0 := (nI_eq (a := (n % 2)) (b := 0) (by omega) (by omega)).mp c_116
            omega
        · have c_54 : (n % 2) = 0 := (nI_eq (a := (n % 2)) (b := 0) (by omega) (by omega)).mp c_54
          omega
      · have c_39 : (n % 2) = 0 := (nI_eq (a := (n % 2)) (b := 0) (by omega) (by omega)).mp c_39
        omega
    · have c_26 : (n % 2) = 0 := (nI_eq (a := (n % 2)) (b := 0) (by omega) (by omega)).mp c_26
      omega
  · have c_3 : (n % 2) = 0 := (nI_eq (a := (n % 2)) (b := 0) (by omega) (by omega)).mp c_3
    omega

abbrev rmmL_refusesAny : Room := { frames := 9, cells := 27, slots := 162, locals := 151 }
theorem mL_refusesAny (l : Launch) (hst : l.stackTraces = false) (D : va_G) (sz : Nat) (cI : ClassId) (cC : ClassId) (cJ : ClassId) (cZ : ClassId) (cQ : ClassId) (x0 : Nat) (a0 : Nat) (a1 : Nat) (a2 : Nat) (a3 : Nat) (a4 : Nat) (a5 : Nat) (a6 : Nat) (v0 : Nat) (v1 : Nat) (t0 : Nat) (t1 : Nat) (h0 : Nat) (u0 : Nat) (u1 : Nat) (pa : Nat → Nat) (rg : Nat → Option Nat) (z : StV) (nx : Nat) (cnt : Nat) (S : Nat → StV) (wd : Nat → Int64) (hv : Int32) (hk : Int32) (hc : Int32) (n : Nat) (hI : oI z nx cnt S) (hrg : rgOK rg pa) (hn : n < 2147483648) : Met l yL_refusesAny wsL_refusesAny rmmL_refusesAny (va_Pc [.ref x0, .int (nI n)] (oPre D sz (fmB (LB cI cC cJ cZ cQ x0 a0 a1 a2 a3 a4 a5 a6 v0 v1 t0 t1 h0 u0 u1 pa rg z nx cnt S wd hv hk hc) [0, 1, 2, 3, 4, 5, 6, 7]) (kT cI cC cJ cZ cQ))) (oQi D (fun (r9 : Int32) (u9 : OS) => 1 = r9 ∧ z = u9.1 ∧ nx = u9.2.1 ∧ cnt = u9.2.2.1 ∧ S = u9.2.2.2.1) (fun (u9 : OS) => fmB (LB cI cC cJ cZ cQ x0 a0 a1 a2 a3 a4 a5 a6 v0 v1 t0 t1 h0 u0 u1 pa rg u9.1 u9.2.1 u9.2.2.1 u9.2.2.2.1 u9.2.2.2.2.1 u9.2.2.2.2.2.1 u9.2.2.2.2.2.2.1 u9.2.2.2.2.2.2.2) [0, 1, 2, 3, 4, 5, 6, 7]) (va_A (fmB (LB cI cC cJ cZ cQ x0 a0 a1 a2 a3 a4 a5 a6 v0 v1 t0 t1 h0 u0 u1 pa rg z nx cnt S wd hv hk hc) [0, 1, 2, 3, 4, 5, 6, 7]) sz)) 27 162 (va_A (fmB (LB cI cC cJ cZ cQ x0 a0 a1 a2 a3 a4 a5 a6 v0 v1 t0 t1 h0 u0 u1 pa rg z nx cnt S wd hv hk hc) [0, 1, 2, 3, 4, 5, 6, 7]) sz) := by
  rcases Nat.mod_two_eq_zero_or_one n with h2 | h2
  · exact mL_refusesAny0 l hst D sz cI cC cJ cZ cQ x0 a0 a1 a2 a3 a4 a5 a6 v0 v1 t0 t1 h0 u0 u1 pa rg z nx cnt S wd hv hk hc n hI hrg hn h2
  · exact mL_refusesAny1 l hst D sz cI cC cJ cZ cQ x0 a0 a1 a2 a3 a4 a5 a6 v0 v1 t0 t1 h0 u0 u1 pa rg z nx cnt S wd hv hk hc n hI hrg hn h2

abbrev rmmL_refuses : Room := { frames := 10, cells := 27, slots := 162, locals := 177 }
set_option maxHeartbeats 4000000 in
set_option maxRecDepth 100000 in
theorem mL_refuses (l : Launch) (hst : l.stackTraces = false) (D : va_G) (sz : Nat) (cI : ClassId) (cC : ClassId) (cJ : ClassId) (cZ : ClassId) (cQ : ClassId) (x0 : Nat) (a0 : Nat) (a1 : Nat) (a2 : Nat) (a3 : Nat) (a4 : Nat) (a5 : Nat) (a6 : Nat) (v0 : Nat) (v1 : Nat) (t0 : Nat) (t1 : Nat) (h0 : Nat) (u0 : Nat) (u1 : Nat) (pa : Nat → Nat) (rg : Nat → Option Nat) (z : StV) (nx : Nat) (cnt : Nat) (S : Nat → StV) (wd : Nat → Int64) (hv : Int32) (hk : Int32) (hc : Int32) (n : Nat) (hI : oI z nx cnt S) (hrg : rgOK rg pa) (hn : n < 2147483648) : Met l yL_refuses wsL_refuses rmmL_refuses (va_Pc [.ref x0, .int (nI n)] (oPre D sz (fmB (LB cI cC cJ cZ cQ x0 a0 a1 a2 a3 a4 a5 a6 v0 v1 t0 t1 h0 u0 u1 pa rg z nx cnt S wd hv hk hc) [0, 1, 2, 3, 4, 5, 6, 7]) (kT cI cC cJ cZ cQ))) (oQi D (fun (r9 : Int32) (u9 : OS) => 1 = r9 ∧ z = u9.1 ∧ nx = u9.2.1 ∧ cnt = u9.2.2.1 ∧ S = u9.2.2.2.1) (fun (u9 : OS) => fmB (LB cI cC cJ cZ cQ x0 a0 a1 a2 a3 a4 a5 a6 v0 v1 t0 t1 h0 u0 u1 pa rg u9.1 u9.2.1 u9.2.2.1 u9.2.2.2.1 u9.2.2.2.2.1 u9.2.2.2.2.2.1 u9.2.2.2.2.2.2.1 u9.2.2.2.2.2.2.2) [0, 1, 2, 3, 4, 5, 6, 7]) (va_A (fmB (LB cI cC cJ cZ cQ x0 a0 a1 a2 a3 a4 a5 a6 v0 v1 t0 t1 h0 u0 u1 pa rg z nx cnt S wd hv hk hc) [0, 1, 2, 3, 4, 5, 6, 7]) sz)) 27 162 (va_A (fmB (LB cI cC cJ cZ cQ x0 a0 a1 a2 a3 a4 a5 a6 v0 v1 t0 t1 h0 u0 u1 pa rg z nx cnt S wd hv hk hc) [0, 1, 2, 3, 4, 5, 6, 7]) sz) := by
  refine k_metO (Qf := oQi D (fun (r9 : Int32) (u9 : OS) => 1 = r9 ∧ z = u9.1 ∧ nx = u9.2.1 ∧ cnt = u9.2.2.1 ∧ S = u9.2.2.2.1) (fun (u9 : OS) => fmB (LB cI cC cJ cZ cQ x0 a0 a1 a2 a3 a4 a5 a6 v0 v1 t0 t1 h0 u0 u1 pa rg u9.1 u9.2.1 u9.2.2.1 u9.2.2.2.1 u9.2.2.2.2.1 u9.2.2.2.2.2.1 u9.2.2.2.2.2.2.1 u9.2.2.2.2.2.2.2) [0, 1, 2, 3, 4, 5, 6, 7])) (cc := cL_refuses) (maxL := 5) (ret := (some .boolean)) (own := RL) (by decide) rfl (Nat.le_of_ble_eq_true rfl) rfl ?_
  intro p e s m args below meth c ls A H locs hx hb hr hts hown hlocks hml hsz hP hK hD hA hS hN hE hO hl
  have hl : lv_has ls 5 [(0, .ref x0), (1, .int (nI n))] := hl
  obtain ⟨hw1, hwz, hlz⟩ := zI_b hI.1
  obtain ⟨hnx, hcnt, -⟩ := hI.2
  have hff := zI_f hI.1
  have hhf := zI_hf hI.1
  refine lv_aload_n hx hb dL_refuses_0 rfl (lv_at hl 0 rfl) ?_
  refine lq_ol (B0 := (LB cI cC cJ cZ cQ x0 a0 a1 a2 a3 a4 a5 a6 v0 v1 t0 t1 h0 u0 u1 pa rg z nx cnt S wd hv hk hc)) (B1 := fun u9 => LB cI cC cJ cZ cQ x0 a0 a1 a2 a3 a4 a5 a6 v0 v1 t0 t1 h0 u0 u1 pa rg u9.1 u9.2.1 u9.2.2.1 u9.2.2.2.1 u9.2.2.2.2.1 u9.2.2.2.2.2.1 u9.2.2.2.2.2.2.1 u9.2.2.2.2.2.2.2) (U := [0, 1, 2, 3, 4, 5, 6, 7]) (As := [.ref x0]) (rest := []) ⟨hx, hb, hml, hown, hts⟩ (mL_seen l hst D H.size cI cC cJ cZ cQ x0 a0 a1 a2 a3 a4 a5 a6 v0 v1 t0 t1 h0 u0 u1 pa rg z nx cnt S wd hv hk hc (by first | assumption | omega) (by first | assumption | omega)) (va_cwS 1 hts gL_refuses_L_seen rfl rfl rfl (by decide +kernel) ⟨Nat.le_of_ble_eq_true rfl, Nat.le_of_ble_eq_true rfl⟩) hP hD hK hS hA hN hE hO (fun _ => rfl) rfl hl.1 rfl (Nat.le_of_ble_eq_true rfl) dL_refuses_1 ⟨Nat.le_of_ble_eq_true rfl, Nat.le_of_ble_eq_true rfl⟩ (fun r_1 u_1 H locs hr_1 hP hD hS => ?_)
  obtain ⟨z_1, nx_1, cnt_1, S_1, wd_1, hv_1, hk_1, hc_1⟩ := u_1
  have hP : va_P D vwCl (fmB (LB cI cC cJ cZ cQ x0 a0 a1 a2 a3 a4 a5 a6 v0 v1 t0 t1 h0 u0 u1 pa rg z_1 nx_1 cnt_1 S_1 wd_1 hv_1 hk_1 hc_1) [0, 1, 2, 3, 4, 5, 6, 7]) H := hP
  have hD : va_D A (fmB (LB cI cC cJ cZ cQ x0 a0 a1 a2 a3 a4 a5 a6 v0 v1 t0 t1 h0 u0 u1 pa rg z_1 nx_1 cnt_1 S_1 wd_1 hv_1 hk_1 hc_1) [0, 1, 2, 3, 4, 5, 6, 7]) := hD
  have hr_1 : (seenP z) = r_1 ∧ z = z_1 ∧ nx = nx_1 ∧ cnt = cnt_1 ∧ S = S_1 := hr_1
  obtain ⟨rfl, rfl, rfl, rfl, rfl⟩ := hr_1
  have hP : va_P D vwCl (fmB (LB cI cC cJ cZ cQ x0 a0 a1 a2 a3 a4 a5 a6 v0 v1 t0 t1 h0 u0 u1 pa rg z nx cnt S wd_1 hv_1 hk_1 hc_1) [0, 1, 2, 3, 4, 5, 6, 7]) H := hP
  have hD : va_D A (fmB (LB cI cC cJ cZ cQ x0 a0 a1 a2 a3 a4 a5 a6 v0 v1 t0 t1 h0 u0 u1 pa rg z nx cnt S wd_1 hv_1 hk_1 hc_1) [0, 1, 2, 3, 4, 5, 6, 7]) := hD
  refine lv_lstore_n (lv' := [(2, .long (seenP z)), (0, .ref x0), (1, .int (nI n))]) hx hb dL_refuses_4 rfl hl (by decide) rfl (fun ls hl => ?_)
  refine lv_aload_n hx hb dL_refuses_5 rfl (lv_at hl 1 rfl) ?_
  refine lq_v (B0 := (LB cI cC cJ cZ cQ x0 a0 a1 a2 a3 a4 a5 a6 v0 v1 t0 t1 h0 u0 u1 pa rg z nx cnt S wd_1 hv_1 hk_1 hc_1)) (B1 := (LB cI cC cJ cZ cQ x0 a0 a1 a2 a3 a4 a5 a6 v0 v1 t0 t1 h0 u0 u1 pa rg z nx cnt S wd_1 hv_1 hk_1 hc_1)) (U := [0, 1, 2, 3, 4, 5, 6, 7]) (isC := [0, 2, 3]) (isR := [1, 4, 5, 6, 7]) (As := []) (rest := []) ⟨hx, hb, hml, hown, hts⟩ (kX7_savedStates l D H.size cI cC cJ cZ cQ x0 v0 t0 h0 u0 a0 v1 nx cnt rg) (cwV 0 hts gL_refuses_X7_savedStates rfl rfl rfl (by decide +kernel) ⟨Nat.le_of_ble_eq_true rfl, Nat.le_of_ble_eq_true rfl⟩) hP hD hK hS hA hN (by decide) rfl rfl rfl 0 7 rfl rfl rfl rfl hl.1 rfl (Nat.le_of_ble_eq_true rfl) dL_refuses_6 ⟨Nat.le_of_ble_eq_true rfl, Nat.le_of_ble_eq_true rfl⟩ (fun H locs hP hD hS => ?_)
  refine lv_istore (lv' := [(4, .int (nI cnt)), (2, .long (seenP z)), (0, .ref x0), (1, .int (nI n))]) hx hb dL_refuses_9 hl (by decide) rfl (fun ls hl => ?_)
  refine lv_aload_n hx hb dL_refuses_11 rfl (lv_at hl 2 rfl) ?_
  refine lv_iload_n hx hb dL_refuses_12 rfl (lv_at hl 3 rfl) ?_
  refine lq_o (B0 := (LB cI cC cJ cZ cQ x0 a0 a1 a2 a3 a4 a5 a6 v0 v1 t0 t1 h0 u0 u1 pa rg z nx cnt S wd_1 hv_1 hk_1 hc_1)) (B1 := fun u9 => LB cI cC cJ cZ cQ x0 a0 a1 a2 a3 a4 a5 a6 v0 v1 t0 t1 h0 u0 u1 pa rg u9.1 u9.2.1 u9.2.2.1 u9.2.2.2.1 u9.2.2.2.2.1 u9.2.2.2.2.2.1 u9.2.2.2.2.2.2.1 u9.2.2.2.2.2.2.2) (U := [0, 1, 2, 3, 4, 5, 6, 7]) (As := [.ref x0, .int (nI n)]) (rest := []) ⟨hx, hb, hml, hown, hts⟩ (mL_refusesAny l hst D H.size cI cC cJ cZ cQ x0 a0 a1 a2 a3 a4 a5 a6 v0 v1 t0 t1 h0 u0 u1 pa rg z nx cnt S wd_1 hv_1 hk_1 hc_1 n (by first | assumption | omega) (by first | assumption | omega) (by first | assumption | omega)) (va_cwS 2 hts gL_refuses_L_refusesAny rfl rfl rfl (by decide +kernel) ⟨Nat.le_of_ble_eq_true rfl, Nat.le_of_ble_eq_true rfl⟩) hP hD hK hS hA hN hE hO (fun _ => rfl) rfl hl.1 rfl (Nat.le_of_ble_eq_true rfl) dL_refuses_13 ⟨Nat.le_of_ble_eq_true rfl, Nat.le_of_ble_eq_true rfl⟩ (fun r_3 u_3 H locs hr_3 hP hD hS => ?_)
  obtain ⟨z_3, nx_3, cnt_3, S_3, wd_3, hv_3, hk_3, hc_3⟩ := u_3
  have hP : va_P D vwCl (fmB (LB cI cC cJ cZ cQ x0 a0 a1 a2 a3 a4 a5 a6 v0 v1 t0 t1 h0 u0 u1 pa rg z_3 nx_3 cnt_3 S_3 wd_3 hv_3 hk_3 hc_3) [0, 1, 2, 3, 4, 5, 6, 7]) H := hP
  have hD : va_D A (fmB (LB cI cC cJ cZ cQ x0 a0 a1 a2 a3 a4 a5 a6 v0 v1 t0 t1 h0 u0 u1 pa rg z_3 nx_3 cnt_3 S_3 wd_3 hv_3 hk_3 hc_3) [0, 1, 2, 3, 4, 5, 6, 7]) := hD
  refine W.widen (k := 27) (n := 162) (Nat.le_refl _) (Nat.le_refl _) ?_
  have hr_3 : 1 = r_3 ∧ z = z_3 ∧ nx = nx_3 ∧ cnt = cnt_3 ∧ S = S_3 := hr_3
  obtain ⟨rfl, rfl, rfl, rfl, rfl⟩ := hr_3
  have hP : va_P D vwCl (fmB (LB cI cC cJ cZ cQ x0 a0 a1 a2 a3 a4 a5 a6 v0 v1 t0 t1 h0 u0 u1 pa rg z nx cnt S wd_3 hv_3 hk_3 hc_3) [0, 1, 2, 3, 4, 5, 6, 7]) H := hP
  have hD : va_D A (fmB (LB cI cC cJ cZ cQ x0 a0 a1 a2 a3 a4 a5 a6 v0 v1 t0 t1 h0 u0 u1 pa rg z nx cnt S wd_3 hv_3 hk_3 hc_3) [0, 1, 2, 3, 4, 5, 6, 7]) := hD
  refine lv_if_eq (tgt := 41) hx hb dL_refuses_16 (by decide) (fun h => absurd h (by decide)) (fun _ => ?_)
  refine lv_aload_n hx hb dL_refuses_19 rfl (lv_at hl 2 rfl) ?_
  refine lq_ol (B0 := (LB cI cC cJ cZ cQ x0 a0 a1 a2 a3 a4 a5 a6 v0 v1 t0 t1 h0 u0 u1 pa rg z nx cnt S wd_3 hv_3 hk_3 hc_3)) (B1 := fun u9 => LB cI cC cJ cZ cQ x0 a0 a1 a2 a3 a4 a5 a6 v0 v1 t0 t1 h0 u0 u1 pa rg u9.1 u9.2.1 u9.2.2.1 u9.2.2.2.1 u9.2.2.2.2.1 u9.2.2.2.2.2.1 u9.2.2.2.2.2.2.1 u9.2.2.2.2.2.2.2) (U := [0, 1, 2, 3, 4, 5, 6, 7]) (As := [.ref x0]) (rest := []) ⟨hx, hb, hml, hown, hts⟩ (mL_seen l hst D H.size cI cC cJ cZ cQ x0 a0 a1 a2 a3 a4 a5 a6 v0 v1 t0 t1 h0 u0 u1 pa rg z nx cnt S wd_3 hv_3 hk_3 hc_3 (by first | assumption | omega) (by first | assumption | omega)) (va_cwS 1 hts gL_refuses_L_seen rfl rfl rfl (by decide +kernel) ⟨Nat.le_of_ble_eq_true rfl, Nat.le_of_ble_eq_true rfl⟩) hP hD hK hS hA hN hE hO (fun _ => rfl) rfl hl.1 rfl (Nat.le_of_ble_eq_true rfl) dL_refuses_20 ⟨Nat.le_of_ble_eq_true rfl, Nat.le_of_ble_eq_true rfl⟩ (fun r_4 u_4 H locs hr_4 hP hD hS => ?_)
  obtain ⟨z_4, nx_4, cnt_4, S_4, wd_4, hv_4, hk_4, hc_4⟩ := u_4
  have hP : va_P D vwCl (fmB (LB cI cC cJ cZ cQ x0 a0 a1 a2 a3 a4 a5 a6 v0 v1 t0 t1 h0 u0 u1 pa rg z_4 nx_4 cnt_4 S_4 wd_4 hv_4 hk_4 hc_4) [0, 1, 2, 3, 4, 5, 6, 7]) H := hP
  have hD : va_D A (fmB (LB cI cC cJ cZ cQ x0 a0 a1 a2 a3 a4 a5 a6 v0 v1 t0 t1 h0 u0 u1 pa rg z_4 nx_4 cnt_4 S_4 wd_4 hv_4 hk_4 hc_4) [0, 1, 2, 3, 4, 5, 6, 7]) := hD
  have hr_4 : (seenP z) = r_4 ∧ z = z_4 ∧ nx = nx_4 ∧ cnt = cnt_4 ∧ S = S_4 := hr_4
  obtain ⟨rfl, rfl, rfl, rfl, rfl⟩ := hr_4
  have hP : va_P D vwCl (fmB (LB cI cC cJ cZ cQ x0 a0 a1 a2 a3 a4 a5 a6 v0 v1 t0 t1 h0 u0 u1 pa rg z nx cnt S wd_4 hv_4 hk_4 hc_4) [0, 1, 2, 3, 4, 5, 6, 7]) H := hP
  have hD : va_D A (fmB (LB cI cC cJ cZ cQ x0 a0 a1 a2 a3 a4 a5 a6 v0 v1 t0 t1 h0 u0 u1 pa rg z nx cnt S wd_4 hv_4 hk_4 hc_4) [0, 1, 2, 3, 4, 5, 6, 7]) := hD
  refine lv_lload_n hx hb dL_refuses_23 rfl (lv_at hl 1 rfl) ?_
  refine W.lcmp hx hb dL_refuses_24 ?_
  refine lv_if_ne (tgt := 41) hx hb dL_refuses_25 (by decide) (fun c_25 => ?_) (fun c_25 => ?_)
  · exact absurd (k_cmp0.mpr rfl) c_25
  · refine lv_aload_n hx hb dL_refuses_28 rfl (lv_at hl 2 rfl) ?_
    refine lq_v (B0 := (LB cI cC cJ cZ cQ x0 a0 a1 a2 a3 a4 a5 a6 v0 v1 t0 t1 h0 u0 u1 pa rg z nx cnt S wd_4 hv_4 hk_4 hc_4)) (B1 := (LB cI cC cJ cZ cQ x0 a0 a1 a2 a3 a4 a5 a6 v0 v1 t0 t1 h0 u0 u1 pa rg z nx cnt S wd_4 hv_4 hk_4 hc_4)) (U := [0, 1, 2, 3, 4, 5, 6, 7]) (isC := [0, 2, 3]) (isR := [1, 4, 5, 6, 7]) (As := []) (rest := []) ⟨hx, hb, hml, hown, hts⟩ (kX7_savedStates l D H.size cI cC cJ cZ cQ x0 v0 t0 h0 u0 a0 v1 nx cnt rg) (cwV 0 hts gL_refuses_X7_savedStates rfl rfl rfl (by decide +kernel) ⟨Nat.le_of_ble_eq_true rfl, Nat.le_of_ble_eq_true rfl⟩) hP hD hK hS hA hN (by decide) rfl rfl rfl 0 7 rfl rfl rfl rfl hl.1 rfl (Nat.le_of_ble_eq_true rfl) dL_refuses_29 ⟨Nat.le_of_ble_eq_true rfl, Nat.le_of_ble_eq_true rfl⟩ (fun H locs hP hD hS => ?_)
    refine lv_iload hx hb dL_refuses_32 (lv_at hl 0 rfl) ?_
    refine lv_icmp_ne (tgt := 41) hx hb dL_refuses_34 (by decide) (fun c_34 => ?_) (fun c_34 => ?_)
    · have c_34 : ¬ cnt = cnt := fun h => c_34 ((nI_eq (a := cnt) (b := cnt) (by omega) (by omega)).mpr h)
      exact absurd rfl c_34
    · have c_34 : cnt = cnt := (nI_eq (a := cnt) (b := cnt) (by omega) (by omega)).mp c_34
      refine lv_iconst (v := 1) hx hb dL_refuses_37 (by decide) ?_
      refine lv_goto (tgt := 42) hx hb dL_refuses_38 (by decide) ?_
      exact kr_oz (u := (z, nx, cnt, S, wd_4, hv_4, hk_4, hc_4)) (v := 1) hx hb hr hlocks rfl hP hD hS ⟨rfl, rfl, rfl, rfl, rfl⟩ dL_refuses_42
