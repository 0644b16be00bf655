/-! the law's own body, before the loop; laid by program (wip/p36/gen/specs_law.py) -/
set_option maxHeartbeats 8000000 in
set_option maxRecDepth 100000 in
theorem lb_0 {p : Program} {l : Launch} {e : Env} {s : State} {m : MethodId} {args : Array Value} {below : List Frame} {meth : Method} {c : Code} {A : Nat → Prop} {H : Heap} {locs : List Loc} {ls : Array Slot} {cells slots : Nat} {Q : State → Prop} {D : va_G} {cI cC cJ cZ cQ : ClassId} {x0 a0 a1 a2 a3 a4 a5 a6 v0 v1 t0 t1 h0 u0 u1 : Nat} {pa : Nat → Nat} {rg : Nat → Option Nat} {z : StV} {nx cnt : Nat} {S : Nat → StV} {wd : Nat → Int64} {hv hk hc : Int32} {b : Nat} (hx : p.tables.exec = Jvm.exec) (hb : c.code = cL_law) (hml : c.maxLocals = 15) (hown : s.vm.findClass RL = some m.cls) (hts : ∀ w ∈ wsL_law, w.before args s = true) (hst : l.stackTraces = false) (hK : va_K D vwCl (kT cI cC cJ cZ cQ) s) (hN : kN s) (hE : kE A s s.heap) (hO : kO s) (hA : ∀ q, s.heap.size ≤ q → A q) (hrg : rgOK rg pa) (hP : va_P D vwCl (fmB (LB cI cC cJ cZ cQ x0 a0 a1 a2 a3 a4 a5 a6 v0 v1 t0 t1 h0 u0 u1 pa rg z nx cnt S wd hv hk hc) [0, 1, 2, 3, 4, 5, 6, 7]) H) (hD : va_D A (fmB (LB cI cC cJ cZ cQ x0 a0 a1 a2 a3 a4 a5 a6 v0 v1 t0 t1 h0 u0 u1 pa rg z nx cnt S wd hv hk hc) [0, 1, 2, 3, 4, 5, 6, 7])) (hS : va_S A s.heap H locs) (hI : oI z nx cnt S) (hz : z = zIni) (hcnt0 : cnt = 0) (hl : lv_has ls 15 [(1, .ref x0), (0, .ref b)]) (hfc : cells + 100 ≤ 649488) (hfs : slots + 600 ≤ 7152719)
    (K : ∀ (H : Heap) (locs : List Loc) (ls : Array Slot) (wd : Nat → Int64) (hv hk hc : Int32), va_P D vwCl (fmB (LB cI cC cJ cZ cQ x0 a0 a1 a2 a3 a4 a5 a6 v0 v1 t0 t1 h0 u0 u1 pa rg z nx cnt S wd hv hk hc) [0, 1, 2, 3, 4, 5, 6, 7]) H → va_D A (fmB (LB cI cC cJ cZ cQ x0 a0 a1 a2 a3 a4 a5 a6 v0 v1 t0 t1 h0 u0 u1 pa rg z nx cnt S wd hv hk hc) [0, 1, 2, 3, 4, 5, 6, 7]) → va_S A s.heap H locs → lv_has ls 15 [(3, .int (nI 0)), (2, .int 1), (1, .ref x0), (0, .ref b)] → W p l e room_1 s m args below meth c H locs (cells + 55) (slots + 330) Q (F0 m 69 ls [])) : W p l e room_1 s m args below meth c H locs cells slots Q (F0 m 8 ls []) := by
  obtain ⟨hw1, hwz, hlz⟩ := zI_b hI.1
  obtain ⟨hnx, hcnt, -⟩ := hI.2
  have hff := zI_f hI.1
  have hhf := zI_hf hI.1
  subst hcnt0
  refine lv_aload_n hx hb dL_law_8 rfl (lv_at hl 0 rfl) ?_
  refine lv_bipush (v := 10) hx hb dL_law_9 (by decide) ?_
  refine lv_iconst (v := 0) hx hb dL_law_11 (by decide) ?_
  refine lv_iconst (v := 0) hx hb dL_law_12 (by decide) ?_
  refine lq_sb (B0 := (LB cI cC cJ cZ cQ x0 a0 a1 a2 a3 a4 a5 a6 v0 v1 t0 t1 h0 u0 u1 pa rg z nx 0 S wd hv hk hc)) (B1 := (LB cI cC cJ cZ cQ x0 a0 a1 a2 a3 a4 a5 a6 v0 v1 t0 t1 h0 u0 u1 pa rg z nx 0 S wd hv hk hc)) (U := [0, 1, 2, 3, 4, 5, 6, 7]) (isC := [0, 2]) (isR := [1, 3, 4, 5, 6, 7]) (As := [.ref x0, .int 10, .int 0, .int 0]) (rest := []) ⟨hx, hb, hml, hown, hts⟩ (kL_undo_bad l hst D H.size cI cC cJ cZ cQ x0 v0 t0 h0 u0 a0 a1 a2 a3 a4 a5 a6 z v1 nx 0 0) (vx_cwSW 4 hts gL_law_L_call rfl rfl rfl (by decide +kernel) ⟨Nat.le_of_ble_eq_true rfl, Nat.le_of_ble_eq_true rfl⟩) hP hD hK hS hA hN hE hO (by decide) rfl rfl rfl rfl hl.1 rfl (Nat.le_of_ble_eq_true rfl) dL_law_13 (lf_ok (by omega) (by omega)) (fun H locs hP hD hS => ?_)
  refine lv_bipush (v := (-12)) hx hb dL_law_16 (by decide) ?_
  refine lv_icmp_ne (tgt := 65) hx hb dL_law_18 (by decide) (fun h => absurd h (by decide)) (fun _ => ?_)
  refine lv_aload_n hx hb dL_law_21 rfl (lv_at hl 0 rfl) ?_
  refine lq_v (B0 := (LB cI cC cJ cZ cQ x0 a0 a1 a2 a3 a4 a5 a6 v0 v1 t0 t1 h0 u0 u1 pa rg z nx 0 S wd hv hk hc)) (B1 := (LB cI cC cJ cZ cQ x0 a0 a1 a2 a3 a4 a5 a6 v0 v1 t0 t1 h0 u0 u1 pa rg z nx 0 S wd hv hk hc)) (U := [0, 1, 2, 3, 4, 5, 6, 7]) (isC := [0, 1]) (isR := [2, 3, 4, 5, 6, 7]) (As := []) (rest := []) ⟨hx, hb, hml, hown, hts⟩ (kX7_voltage l D H.size cI cC cJ cZ cQ x0 v0 t0 h0 u0 a0 a1 a2 a3 a4 a5 a6 z) (cwV 0 hts gL_law_X7_voltage rfl rfl rfl (by decide +kernel) ⟨Nat.le_of_ble_eq_true rfl, Nat.le_of_ble_eq_true rfl⟩) hP hD hK hS hA hN (by decide) rfl rfl rfl 0 7 rfl rfl rfl rfl hl.1 rfl (Nat.le_of_ble_eq_true rfl) dL_law_22 (lf_ok (by omega) (by omega)) (fun H locs hP hD hS => ?_)
  refine k_topi (y := 0) (by rw [hz]) ?_
  refine lv_if_ne (tgt := 65) hx hb dL_law_25 (by decide) (fun h => absurd h (by decide)) (fun _ => ?_)
  refine lv_aload_n hx hb dL_law_28 rfl (lv_at hl 0 rfl) ?_
  refine lq_v (B0 := (LB cI cC cJ cZ cQ x0 a0 a1 a2 a3 a4 a5 a6 v0 v1 t0 t1 h0 u0 u1 pa rg z nx 0 S wd hv hk hc)) (B1 := (LB cI cC cJ cZ cQ x0 a0 a1 a2 a3 a4 a5 a6 v0 v1 t0 t1 h0 u0 u1 pa rg z nx 0 S wd hv hk hc)) (U := [0, 1, 2, 3, 4, 5, 6, 7]) (isC := [0, 1]) (isR := [2, 3, 4, 5, 6, 7]) (As := []) (rest := []) ⟨hx, hb, hml, hown, hts⟩ (kX7_total l D H.size cI cC cJ cZ cQ x0 v0 t0 h0 u0 a0 a1 a2 a3 a4 a5 a6 z (by first | assumption | omega)) (cwV 0 hts gL_law_X7_total rfl rfl rfl (by decide +kernel) ⟨Nat.le_of_ble_eq_true rfl, Nat.le_of_ble_eq_true rfl⟩) hP hD hK hS hA hN (by decide) rfl rfl rfl 0 7 rfl rfl rfl rfl hl.1 rfl (Nat.le_of_ble_eq_true rfl) dL_law_29 (lf_ok (by omega) (by omega)) (fun H locs hP hD hS => ?_)
  refine k_topi (y := 255) (by rw [hz]; decide +kernel) ?_
  refine lv_sipush (v := 255) hx hb dL_law_32 (by decide) ?_
  refine lv_icmp_ne (tgt := 65) hx hb dL_law_35 (by decide) (fun h => absurd h (by decide)) (fun _ => ?_)
  refine lv_aload_n hx hb dL_law_38 rfl (lv_at hl 0 rfl) ?_
  refine lq_v (B0 := (LB cI cC cJ cZ cQ x0 a0 a1 a2 a3 a4 a5 a6 v0 v1 t0 t1 h0 u0 u1 pa rg z nx 0 S wd hv hk hc)) (B1 := (LB cI cC cJ cZ cQ x0 a0 a1 a2 a3 a4 a5 a6 v0 v1 t0 t1 h0 u0 u1 pa rg z nx 0 S wd ((wgS z.2.2.2.2.2.2.2.1 z.2.2.1 z.2.2.2.1 z.2.2.2.2.1 z.1 z.2.2.2.2.2.1).1) ((wgS z.2.2.2.2.2.2.2.1 z.2.2.1 z.2.2.2.1 z.2.2.2.2.1 z.1 z.2.2.2.2.2.1).2.1) ((wgS z.2.2.2.2.2.2.2.1 z.2.2.1 z.2.2.2.1 z.2.2.2.2.1 z.1 z.2.2.2.2.2.1).2.2))) (U := [0, 1, 2, 3, 4, 5, 6, 7]) (isC := [0, 1, 6]) (isR := [2, 3, 4, 5, 7]) (As := []) (rest := []) ⟨hx, hb, hml, hown, hts⟩ (kX7_nextCode l D H.size cI cC cJ cZ cQ x0 v0 t0 h0 u0 a0 a1 a2 a3 a4 a5 a6 z hv hk hc (by first | assumption | omega)) (cwV 0 hts gL_law_X7_nextCode rfl rfl rfl (by decide +kernel) ⟨Nat.le_of_ble_eq_true rfl, Nat.le_of_ble_eq_true rfl⟩) hP hD hK hS hA hN (by decide) rfl rfl rfl 0 7 rfl rfl rfl rfl hl.1 rfl (Nat.le_of_ble_eq_true rfl) dL_law_39 (lf_ok (by omega) (by omega)) (fun H locs hP hD hS => ?_)
  refine k_topi (y := 0) (by rw [hz]; decide +kernel) ?_
  refine lv_if_ne (tgt := 65) hx hb dL_law_42 (by decide) (fun h => absurd h (by decide)) (fun _ => ?_)
  refine lv_aload_n hx hb dL_law_45 rfl (lv_at hl 0 rfl) ?_
  refine lv_iconst (v := 0) hx hb dL_law_46 (by decide) ?_
  refine k_topi (y := nI 0) rfl ?_
  refine lq_o (B0 := (LB cI cC cJ cZ cQ x0 a0 a1 a2 a3 a4 a5 a6 v0 v1 t0 t1 h0 u0 u1 pa rg z nx 0 S wd ((wgS z.2.2.2.2.2.2.2.1 z.2.2.1 z.2.2.2.1 z.2.2.2.2.1 z.1 z.2.2.2.2.2.1).1) ((wgS z.2.2.2.2.2.2.2.1 z.2.2.1 z.2.2.2.1 z.2.2.2.2.1 z.1 z.2.2.2.2.2.1).2.1) ((wgS z.2.2.2.2.2.2.2.1 z.2.2.1 z.2.2.2.1 z.2.2.2.2.1 z.1 z.2.2.2.2.2.1).2.2))) (B1 := fun u9 => LB cI cC cJ cZ cQ x0 a0 a1 a2 a3 a4 a5 a6 v0 v1 t0 t1 h0 u0 u1 pa rg u9.1 u9.2.1 u9.2.2.1 u9.2.2.2.1 u9.2.2.2.2.1 u9.2.2.2.2.2.1 u9.2.2.2.2.2.2.1 u9.2.2.2.2.2.2.2) (U := [0, 1, 2, 3, 4, 5, 6, 7]) (As := [.ref x0, .int (nI 0)]) (rest := []) ⟨hx, hb, hml, hown, hts⟩ (mL_refuses l hst D H.size cI cC cJ cZ cQ x0 a0 a1 a2 a3 a4 a5 a6 v0 v1 t0 t1 h0 u0 u1 pa rg z nx 0 S wd ((wgS z.2.2.2.2.2.2.2.1 z.2.2.1 z.2.2.2.1 z.2.2.2.2.1 z.1 z.2.2.2.2.2.1).1) ((wgS z.2.2.2.2.2.2.2.1 z.2.2.1 z.2.2.2.1 z.2.2.2.2.1 z.1 z.2.2.2.2.2.1).2.1) ((wgS z.2.2.2.2.2.2.2.1 z.2.2.1 z.2.2.2.1 z.2.2.2.2.1 z.1 z.2.2.2.2.2.1).2.2) 0 (by first | assumption | omega) (by first | assumption | omega) (by decide)) (va_cwS 2 hts gL_law_L_refuses rfl rfl rfl (by decide +kernel) ⟨Nat.le_of_ble_eq_true rfl, Nat.le_of_ble_eq_true rfl⟩) hP hD hK hS hA hN hE hO (fun _ => rfl) rfl hl.1 rfl (Nat.le_of_ble_eq_true rfl) dL_law_47 (lf_ok (by omega) (by omega)) (fun r_5 u_5 H locs hr_5 hP hD hS => ?_)
  obtain ⟨z_5, nx_5, cnt_5, S_5, wd_5, hv_5, hk_5, hc_5⟩ := u_5
  have hP : va_P D vwCl (fmB (LB cI cC cJ cZ cQ x0 a0 a1 a2 a3 a4 a5 a6 v0 v1 t0 t1 h0 u0 u1 pa rg z_5 nx_5 cnt_5 S_5 wd_5 hv_5 hk_5 hc_5) [0, 1, 2, 3, 4, 5, 6, 7]) H := hP
  have hD : va_D A (fmB (LB cI cC cJ cZ cQ x0 a0 a1 a2 a3 a4 a5 a6 v0 v1 t0 t1 h0 u0 u1 pa rg z_5 nx_5 cnt_5 S_5 wd_5 hv_5 hk_5 hc_5) [0, 1, 2, 3, 4, 5, 6, 7]) := hD
  have hr_5 : 1 = r_5 ∧ z = z_5 ∧ nx = nx_5 ∧ 0 = cnt_5 ∧ S = S_5 := hr_5
  obtain ⟨rfl, rfl, rfl, rfl, rfl⟩ := hr_5
  have hP : va_P D vwCl (fmB (LB cI cC cJ cZ cQ x0 a0 a1 a2 a3 a4 a5 a6 v0 v1 t0 t1 h0 u0 u1 pa rg z nx 0 S wd_5 hv_5 hk_5 hc_5) [0, 1, 2, 3, 4, 5, 6, 7]) H := hP
  have hD : va_D A (fmB (LB cI cC cJ cZ cQ x0 a0 a1 a2 a3 a4 a5 a6 v0 v1 t0 t1 h0 u0 u1 pa rg z nx 0 S wd_5 hv_5 hk_5 hc_5) [0, 1, 2, 3, 4, 5, 6, 7]) := hD
  refine lv_if_eq (tgt := 65) hx hb dL_law_50 (by decide) (fun h => absurd h (by decide)) (fun _ => ?_)
  refine lv_aload_n hx hb dL_law_53 rfl (lv_at hl 0 rfl) ?_
  refine lv_iconst (v := 1) hx hb dL_law_54 (by decide) ?_
  refine k_topi (y := nI 1) rfl ?_
  refine lq_o (B0 := (LB cI cC cJ cZ cQ x0 a0 a1 a2 a3 a4 a5 a6 v0 v1 t0 t1 h0 u0 u1 pa rg z nx 0 S wd_5 hv_5 hk_5 hc_5)) (B1 := fun u9 => LB cI cC cJ cZ cQ x0 a0 a1 a2 a3 a4 a5 a6 v0 v1 t0 t1 h0 u0 u1 pa rg u9.1 u9.2.1 u9.2.2.1 u9.2.2.2.1 u9.2.2.2.2.1 u9.2.2.2.2.2.1 u9.2.2.2.2.2.2.1 u9.2.2.2.2.2.2.2) (U := [0, 1, 2, 3, 4, 5, 6, 7]) (As := [.ref x0, .int (nI 1)]) (rest := []) ⟨hx, hb, hml, hown, hts⟩ (mL_refuses l hst D H.size cI cC cJ cZ cQ x0 a0 a1 a2 a3 a4 a5 a6 v0 v1 t0 t1 h0 u0 u1 pa rg z nx 0 S wd_5 hv_5 hk_5 hc_5 1 (by first | assumption | omega) (by first | assumption | omega) (by decide)) (va_cwS 2 hts gL_law_L_refuses rfl rfl rfl (by decide +kernel) ⟨Nat.le_of_ble_eq_true rfl, Nat.le_of_ble_eq_true rfl⟩) hP hD hK hS hA hN hE hO (fun _ => rfl) rfl hl.1 rfl (Nat.le_of_ble_eq_true rfl) dL_law_55 (lf_ok (by omega) (by omega)) (fun r_6 u_6 H locs hr_6 hP hD hS => ?_)
  obtain ⟨z_6, nx_6, cnt_6, S_6, wd_6, hv_6, hk_6, hc_6⟩ := u_6
  have hP : va_P D vwCl (fmB (LB cI cC cJ cZ cQ x0 a0 a1 a2 a3 a4 a5 a6 v0 v1 t0 t1 h0 u0 u1 pa rg z_6 nx_6 cnt_6 S_6 wd_6 hv_6 hk_6 hc_6) [0, 1, 2, 3, 4, 5, 6, 7]) H := hP
  have hD : va_D A (fmB (LB cI cC cJ cZ cQ x0 a0 a1 a2 a3 a4 a5 a6 v0 v1 t0 t1 h0 u0 u1 pa rg z_6 nx_6 cnt_6 S_6 wd_6 hv_6 hk_6 hc_6) [0, 1, 2, 3, 4, 5, 6, 7]) := hD
  have hr_6 : 1 = r_6 ∧ z = z_6 ∧ nx = nx_6 ∧ 0 = cnt_6 ∧ S = S_6 := hr_6
  obtain ⟨rfl, rfl, rfl, rfl, rfl⟩ := hr_6
  have hP : va_P D vwCl (fmB (LB cI cC cJ cZ cQ x0 a0 a1 a2 a3 a4 a5 a6 v0 v1 t0 t1 h0 u0 u1 pa rg z nx 0 S wd_6 hv_6 hk_6 hc_6) [0, 1, 2, 3, 4, 5, 6, 7]) H := hP
  have hD : va_D A (fmB (LB cI cC cJ cZ cQ x0 a0 a1 a2 a3 a4 a5 a6 v0 v1 t0 t1 h0 u0 u1 pa rg z nx 0 S wd_6 hv_6 hk_6 hc_6) [0, 1, 2, 3, 4, 5, 6, 7]) := hD
  refine lv_if_eq (tgt := 65) hx hb dL_law_58 (by decide) (fun h => absurd h (by decide)) (fun _ => ?_)
  refine lv_iconst (v := 1) hx hb dL_law_61 (by decide) ?_
  refine lv_goto (tgt := 66) hx hb dL_law_62 (by decide) ?_
  refine lv_istore_n (lv' := [(2, .int 1), (1, .ref x0), (0, .ref b)]) hx hb dL_law_66 rfl hl (by decide) rfl (fun ls hl => ?_)
  refine lv_iconst (v := 0) hx hb dL_law_67 (by decide) ?_
  refine lv_istore_n (lv' := [(3, .int 0), (2, .int 1), (1, .ref x0), (0, .ref b)]) hx hb dL_law_68 rfl hl (by decide) rfl (fun ls hl => ?_)
  exact K _ _ _ wd_6 hv_6 hk_6 hc_6 hP hD hS (lv_sub hl [0, 1, 2, 3] rfl)
