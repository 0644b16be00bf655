/-! weights; laid by program (wip/p36/gen) -/
abbrev rmmL_weights0 : Room := { frames := 9, cells := 2, slots := 12, locals := 170 }
set_option maxHeartbeats 4000000 in
set_option maxRecDepth 100000 in
theorem mL_weights0 (l : Launch) (hst : l.stackTraces = false) (D : va_G) (sz : Nat) (cI : ClassId) (cC : ClassId) (cJ : ClassId) (cZ : ClassId) (cQ : ClassId) (x0 : Nat) (a0 : Nat) (a1 : Nat) (a2 : Nat) (a3 : Nat) (a4 : Nat) (a5 : Nat) (a6 : Nat) (v0 : Nat) (v1 : Nat) (t0 : Nat) (t1 : Nat) (h0 : Nat) (u0 : Nat) (u1 : Nat) (pa : Nat → Nat) (rg : Nat → Option Nat) (z : StV) (nx : Nat) (cnt : Nat) (S : Nat → StV) (wd : Nat → Int64) (hv : Int32) (hk : Int32) (hc : Int32) (how : Nat) (n : Nat) (hI : oI z nx cnt S) (hrg : rgOK rg pa) (hn : n < 2147483648) (hh : how = 0) : Met l yL_weights wsL_weights rmmL_weights0 (va_Pc [.ref x0, .int (nI how), .int (nI n)] (oPre D sz (fmB (LB cI cC cJ cZ cQ x0 a0 a1 a2 a3 a4 a5 a6 v0 v1 t0 t1 h0 u0 u1 pa rg z nx cnt S wd hv hk hc) [0, 1, 2, 3, 4, 5, 6, 7]) (kT cI cC cJ cZ cQ))) (oQi D (fun (r9 : Int32) (u9 : OS) => 1 = r9 ∧ oI u9.1 u9.2.1 u9.2.2.1 u9.2.2.2.1 ∧ u9.2.1 = (nx + 1) % 6 ∧ u9.2.2.1 = min (cnt + 1) 6 ∧ u9.2.2.2.1 = updS S nx z) (fun (u9 : OS) => fmB (LB cI cC cJ cZ cQ x0 a0 a1 a2 a3 a4 a5 a6 v0 v1 t0 t1 h0 u0 u1 pa rg u9.1 u9.2.1 u9.2.2.1 u9.2.2.2.1 u9.2.2.2.2.1 u9.2.2.2.2.2.1 u9.2.2.2.2.2.2.1 u9.2.2.2.2.2.2.2) [0, 1, 2, 3, 4, 5, 6, 7]) (va_A (fmB (LB cI cC cJ cZ cQ x0 a0 a1 a2 a3 a4 a5 a6 v0 v1 t0 t1 h0 u0 u1 pa rg z nx cnt S wd hv hk hc) [0, 1, 2, 3, 4, 5, 6, 7]) sz)) 2 12 (va_A (fmB (LB cI cC cJ cZ cQ x0 a0 a1 a2 a3 a4 a5 a6 v0 v1 t0 t1 h0 u0 u1 pa rg z nx cnt S wd hv hk hc) [0, 1, 2, 3, 4, 5, 6, 7]) sz) := by
  refine k_metO (Qf := oQi D (fun (r9 : Int32) (u9 : OS) => 1 = r9 ∧ oI u9.1 u9.2.1 u9.2.2.1 u9.2.2.2.1 ∧ u9.2.1 = (nx + 1) % 6 ∧ u9.2.2.1 = min (cnt + 1) 6 ∧ u9.2.2.2.1 = updS S nx z) (fun (u9 : OS) => fmB (LB cI cC cJ cZ cQ x0 a0 a1 a2 a3 a4 a5 a6 v0 v1 t0 t1 h0 u0 u1 pa rg u9.1 u9.2.1 u9.2.2.1 u9.2.2.2.1 u9.2.2.2.2.1 u9.2.2.2.2.2.1 u9.2.2.2.2.2.2.1 u9.2.2.2.2.2.2.2) [0, 1, 2, 3, 4, 5, 6, 7])) (cc := cL_weights) (maxL := 13) (ret := (some .boolean)) (own := RL) (by decide) rfl (Nat.le_of_ble_eq_true rfl) rfl ?_
  intro p e s m args below meth c ls A H locs hx hb hr hts hown hlocks hml hsz hP hK hD hA hS hN hE hO hl
  have hl : lv_has ls 13 [(0, .ref x0), (1, .int (nI how)), (2, .int (nI n))] := hl
  obtain ⟨hw1, hwz, hlz⟩ := zI_b hI.1
  obtain ⟨hnx, hcnt, -⟩ := hI.2
  have hff := zI_f hI.1
  have hhf := zI_hf hI.1
  have hkw : n % z.2.2.2.2.2.1 < z.2.2.2.2.2.1 := Nat.mod_lt _ (by omega)
  refine lv_aload_n hx hb dL_weights_0 rfl (lv_at hl 0 rfl) ?_
  refine lq_v (B0 := (LB cI cC cJ cZ cQ x0 a0 a1 a2 a3 a4 a5 a6 v0 v1 t0 t1 h0 u0 u1 pa rg z nx cnt S wd hv hk hc)) (B1 := (LB cI cC cJ cZ cQ x0 a0 a1 a2 a3 a4 a5 a6 v0 v1 t0 t1 h0 u0 u1 pa rg z nx cnt S wd hv hk hc)) (U := [0, 1, 2, 3, 4, 5, 6, 7]) (isC := [0, 1]) (isR := [2, 3, 4, 5, 6, 7]) (As := []) (rest := []) ⟨hx, hb, hml, hown, hts⟩ (kX7_weights l D H.size cI cC cJ cZ cQ x0 v0 t0 h0 u0 a0 a1 a2 a3 a4 a5 a6 z) (cwV 0 hts gL_weights_X7_weights rfl rfl rfl (by decide +kernel) ⟨Nat.le_of_ble_eq_true rfl, Nat.le_of_ble_eq_true rfl⟩) hP hD hK hS hA hN (by decide) rfl rfl rfl 0 7 rfl rfl rfl rfl hl.1 rfl (Nat.le_of_ble_eq_true rfl) dL_weights_1 ⟨Nat.le_of_ble_eq_true rfl, Nat.le_of_ble_eq_true rfl⟩ (fun H locs hP hD hS => ?_)
  refine lv_istore_n (lv' := [(3, .int (nI z.2.2.2.2.2.1)), (0, .ref x0), (1, .int (nI how)), (2, .int (nI n))]) hx hb dL_weights_4 rfl hl (by decide) rfl (fun ls hl => ?_)
  refine lv_aload_n hx hb dL_weights_5 rfl (lv_at hl 1 rfl) ?_
  refine lq_v (B0 := (LB cI cC cJ cZ cQ x0 a0 a1 a2 a3 a4 a5 a6 v0 v1 t0 t1 h0 u0 u1 pa rg z nx cnt S wd hv hk hc)) (B1 := (LB cI cC cJ cZ cQ x0 a0 a1 a2 a3 a4 a5 a6 v0 v1 t0 t1 h0 u0 u1 pa rg z nx cnt S wd hv hk hc)) (U := [0, 1, 2, 3, 4, 5, 6, 7]) (isC := [0, 1]) (isR := [2, 3, 4, 5, 6, 7]) (As := []) (rest := []) ⟨hx, hb, hml, hown, hts⟩ (kX7_total l D H.size cI cC cJ cZ cQ x0 v0 t0 h0 u0 a0 a1 a2 a3 a4 a5 a6 z (by first | assumption | omega)) (cwV 0 hts gL_weights_X7_total rfl rfl rfl (by decide +kernel) ⟨Nat.le_of_ble_eq_true rfl, Nat.le_of_ble_eq_true rfl⟩) hP hD hK hS hA hN (by decide) rfl rfl rfl 0 7 rfl rfl rfl rfl hl.1 rfl (Nat.le_of_ble_eq_true rfl) dL_weights_6 ⟨Nat.le_of_ble_eq_true rfl, Nat.le_of_ble_eq_true rfl⟩ (fun H locs hP hD hS => ?_)
  refine lv_istore (lv' := [(4, .int (sumW z.2.2.2.2.2.2.2.1 z.2.2.2.2.2.1)), (3, .int (nI z.2.2.2.2.2.1)), (0, .ref x0), (1, .int (nI how)), (2, .int (nI n))]) hx hb dL_weights_9 hl (by decide) rfl (fun ls hl => ?_)
  refine lv_iload_n hx hb dL_weights_11 rfl (lv_at hl 4 rfl) ?_
  refine lv_iload_n hx hb dL_weights_12 rfl (lv_at hl 1 rfl) ?_
  refine lv_irem hx hb dL_weights_13 (fun h9 => by have h8 := (nI_eq (a := z.2.2.2.2.2.1) (b := 0) (by omega) (by omega)).mp h9; omega) ?_
  refine k_topi (y := nI (n % z.2.2.2.2.2.1)) (pk_rem (a := n) (d := z.2.2.2.2.2.1) (by omega) (by omega) (by omega)) ?_
  refine lv_istore (lv' := [(5, .int (nI (n % z.2.2.2.2.2.1))), (4, .int (sumW z.2.2.2.2.2.2.2.1 z.2.2.2.2.2.1)), (3, .int (nI z.2.2.2.2.2.1)), (0, .ref x0), (1, .int (nI how)), (2, .int (nI n))]) hx hb dL_weights_14 hl (by decide) rfl (fun ls hl => ?_)
  refine lv_aload_n hx hb dL_weights_16 rfl (lv_at hl 3 rfl) ?_
  refine lv_iconst (v := 0) hx hb dL_weights_17 (by decide) ?_
  refine lv_iload hx hb dL_weights_18 (lv_at hl 0 rfl) ?_
  refine lq_s (B0 := (LB cI cC cJ cZ cQ x0 a0 a1 a2 a3 a4 a5 a6 v0 v1 t0 t1 h0 u0 u1 pa rg z nx cnt S wd hv hk hc)) (B1 := (LB cI cC cJ cZ cQ x0 a0 a1 a2 a3 a4 a5 a6 v0 v1 t0 t1 h0 u0 u1 pa rg z nx cnt S wd hv hk hc)) (U := [0, 1, 2, 3, 4, 5, 6, 7]) (isC := [0, 1]) (isR := [2, 3, 4, 5, 6, 7]) (As := [.ref x0, .int 0, .int (nI (n % z.2.2.2.2.2.1))]) (rest := []) ⟨hx, hb, hml, hown, hts⟩ (kL_weight_ok l D H.size cI cC cJ cZ cQ x0 v0 t0 h0 u0 a0 a1 a2 a3 a4 a5 a6 z (n % z.2.2.2.2.2.1) (by first | assumption | omega) hkw) (vx_cwSW 3 hts gL_weights_L_ask rfl rfl rfl (by decide +kernel) ⟨Nat.le_of_ble_eq_true rfl, Nat.le_of_ble_eq_true rfl⟩) hP hD hK hS hA hN (by decide) rfl rfl rfl rfl hl.1 rfl (Nat.le_of_ble_eq_true rfl) dL_weights_20 ⟨Nat.le_of_ble_eq_true rfl, Nat.le_of_ble_eq_true rfl⟩ (fun H locs hP hD hS => ?_)
  refine lv_istore (lv' := [(6, .int (z.2.2.2.2.2.2.2.1 (n % z.2.2.2.2.2.1))), (5, .int (nI (n % z.2.2.2.2.2.1))), (4, .int (sumW z.2.2.2.2.2.2.2.1 z.2.2.2.2.2.1)), (3, .int (nI z.2.2.2.2.2.1)), (0, .ref x0), (1, .int (nI how)), (2, .int (nI n))]) hx hb dL_weights_23 hl (by decide) rfl (fun ls hl => ?_)
  refine lv_iload_n hx hb dL_weights_25 rfl (lv_at hl 6 rfl) ?_
  refine lv_bipush (v := 12) hx hb dL_weights_26 (by decide) ?_
  refine lv_idiv hx hb dL_weights_28 (by decide) ?_
  refine k_topi (y := nI (n / 12)) (pk_div (a := n) (d := 12) (by omega) (by omega) (by omega)) ?_
  refine ks_i0 (As := [.int (nI (n / 12))]) (rest := []) ⟨hx, hb, hml, hown, hts⟩ (mL_size l (n / 12) (by first | assumption | omega)) (va_cwS 1 hts gL_weights_L_size rfl rfl rfl (by decide +kernel) ⟨Nat.le_of_ble_eq_true rfl, Nat.le_of_ble_eq_true rfl⟩) hP hS rfl hl.1 rfl (Nat.le_of_ble_eq_true rfl) dL_weights_29 ⟨Nat.zero_le _, Nat.zero_le _⟩ (fun H locs hP hS => ?_)
  refine lv_istore (lv' := [(7, .int (nI (sizeN (n / 12)))), (6, .int (z.2.2.2.2.2.2.2.1 (n % z.2.2.2.2.2.1))), (5, .int (nI (n % z.2.2.2.2.2.1))), (4, .int (sumW z.2.2.2.2.2.2.2.1 z.2.2.2.2.2.1)), (3, .int (nI z.2.2.2.2.2.1)), (0, .ref x0), (1, .int (nI how)), (2, .int (nI n))]) hx hb dL_weights_32 hl (by decide) rfl (fun ls hl => ?_)
  refine lv_iload_n hx hb dL_weights_34 rfl (lv_at hl 6 rfl) ?_
  refine lv_if_ne (tgt := 85) hx hb dL_weights_35 (by decide) (fun c_35 => ?_) (fun c_35 => ?_)
  · have c_35 : ¬ how = 0 := fun h => c_35 ((nI_eq (a := how) (b := 0) (by omega) (by omega)).mpr h)
    omega
  · have c_35 : how = 0 := (nI_eq (a := how) (b := 0) (by omega) (by omega)).mp c_35
    refine lv_aload_n hx hb dL_weights_38 rfl (lv_at hl 5 rfl) ?_
    refine lv_iconst (v := 5) hx hb dL_weights_39 (by decide) ?_
    refine lv_iload hx hb dL_weights_40 (lv_at hl 2 rfl) ?_
    refine lv_iload hx hb dL_weights_42 (lv_at hl 0 rfl) ?_
    refine lq_s (B0 := (LB cI cC cJ cZ cQ x0 a0 a1 a2 a3 a4 a5 a6 v0 v1 t0 t1 h0 u0 u1 pa rg z nx cnt S wd hv hk hc)) (B1 := (LB cI cC cJ cZ cQ x0 a0 a1 a2 a3 a4 a5 a6 v0 v1 t0 t1 h0 u0 u1 pa rg (z.1, z.2.1, z.2.2.1, z.2.2.2.1, z.2.2.2.2.1, z.2.2.2.2.2.1, z.2.2.2.2.2.2.1, upd z.2.2.2.2.2.2.2.1 (n % z.2.2.2.2.2.1) (nI (sizeN (n / 12))), z.2.2.2.2.2.2.2.2) ((nx + 1) % 6) (min (cnt + 1) 6) (updS S nx z) wd hv hk hc)) (U := [0, 1, 2, 3, 4, 5, 6, 7]) (isC := [0, 1, 2, 3, 4]) (isR := [5, 6, 7]) (As := [.ref x0, .int 5, .int (nI (n % z.2.2.2.2.2.1)), .int (nI (sizeN (n / 12)))]) (rest := []) ⟨hx, hb, hml, hown, hts⟩ (kL_setWeight_ok l D H.size cI cC cJ cZ cQ x0 v0 t0 h0 u0 a0 a1 a2 a3 a4 a5 a6 z v1 nx cnt pa S rg (n % z.2.2.2.2.2.1) (nI (sizeN (n / 12))) hnx hcnt hrg (by first | assumption | omega) hkw (sz_lo _) (sz_hi _)) (vx_cwSW 4 hts gL_weights_L_call rfl rfl rfl (by decide +kernel) ⟨Nat.le_of_ble_eq_true rfl, Nat.le_of_ble_eq_true rfl⟩) hP hD hK hS hA hN (by decide) rfl rfl rfl rfl hl.1 rfl (Nat.le_of_ble_eq_true rfl) dL_weights_44 ⟨Nat.le_of_ble_eq_true rfl, Nat.le_of_ble_eq_true rfl⟩ (fun H locs hP hD hS => ?_)
    have hP : va_P D vwCl (fmB (LB cI cC cJ cZ cQ x0 a0 a1 a2 a3 a4 a5 a6 v0 v1 t0 t1 h0 u0 u1 pa rg (z.1, z.2.1, z.2.2.1, z.2.2.2.1, z.2.2.2.2.1, z.2.2.2.2.2.1, z.2.2.2.2.2.2.1, upd z.2.2.2.2.2.2.2.1 (n % z.2.2.2.2.2.1) (nI (sizeN (n / 12))), z.2.2.2.2.2.2.2.2) ((nx + 1) % 6) (min (cnt + 1) 6) (updS S nx z) wd hv hk hc) [0, 1, 2, 3, 4, 5, 6, 7]) H := hP
    have hD : va_D A (fmB (LB cI cC cJ cZ cQ x0 a0 a1 a2 a3 a4 a5 a6 v0 v1 t0 t1 h0 u0 u1 pa rg (z.1, z.2.1, z.2.2.1, z.2.2.2.1, z.2.2.2.2.1, z.2.2.2.2.2.1, z.2.2.2.2.2.2.1, upd z.2.2.2.2.2.2.2.1 (n % z.2.2.2.2.2.1) (nI (sizeN (n / 12))), z.2.2.2.2.2.2.2.2) ((nx + 1) % 6) (min (cnt + 1) 6) (updS S nx z) wd hv hk hc) [0, 1, 2, 3, 4, 5, 6, 7]) := hD
    obtain ⟨z1, hz1⟩ : ∃ q9 : StV, q9 = (z.1, z.2.1, z.2.2.1, z.2.2.2.1, z.2.2.2.2.1, z.2.2.2.2.2.1, z.2.2.2.2.2.2.1, upd z.2.2.2.2.2.2.2.1 (n % z.2.2.2.2.2.1) (nI (sizeN (n / 12))), z.2.2.2.2.2.2.2.2) := ⟨_, rfl⟩
    rw [← hz1] at hP hD
    have hP : va_P D vwCl (fmB (LB cI cC cJ cZ cQ x0 a0 a1 a2 a3 a4 a5 a6 v0 v1 t0 t1 h0 u0 u1 pa rg z1 ((nx + 1) % 6) (min (cnt + 1) 6) (updS S nx z) wd hv hk hc) [0, 1, 2, 3, 4, 5, 6, 7]) H := hP
    have hD : va_D A (fmB (LB cI cC cJ cZ cQ x0 a0 a1 a2 a3 a4 a5 a6 v0 v1 t0 t1 h0 u0 u1 pa rg z1 ((nx + 1) % 6) (min (cnt + 1) 6) (updS S nx z) wd hv hk hc) [0, 1, 2, 3, 4, 5, 6, 7]) := hD
    have hz9 : zI z1 := by subst hz1; exact zI_w hI.1 ⟨hw1, hwz⟩ (set_rg hff (sz_rng _))
    obtain ⟨hq1, hq2, hq3⟩ := zI_b hz9
    have hff1 := zI_f hz9
    have hhf1 := zI_hf hz9
    have e6 : z1.2.2.2.2.2.1 = z.2.2.2.2.2.1 := by subst hz1; rfl
    refine lv_iload hx hb dL_weights_47 (lv_at hl 1 rfl) ?_
    refine lv_icmp_ne (tgt := 83) hx hb dL_weights_49 (by decide) (fun c_49 => ?_) (fun c_49 => ?_)
    · exact absurd rfl c_49
    · refine lv_aload_n hx hb dL_weights_52 rfl (lv_at hl 5 rfl) ?_
      refine lv_iconst (v := 0) hx hb dL_weights_53 (by decide) ?_
      refine lv_iload hx hb dL_weights_54 (lv_at hl 2 rfl) ?_
      refine lq_s (B0 := (LB cI cC cJ cZ cQ x0 a0 a1 a2 a3 a4 a5 a6 v0 v1 t0 t1 h0 u0 u1 pa rg z1 ((nx + 1) % 6) (min (cnt + 1) 6) (updS S nx z) wd hv hk hc)) (B1 := (LB cI cC cJ cZ cQ x0 a0 a1 a2 a3 a4 a5 a6 v0 v1 t0 t1 h0 u0 u1 pa rg z1 ((nx + 1) % 6) (min (cnt + 1) 6) (updS S nx z) wd hv hk hc)) (U := [0, 1, 2, 3, 4, 5, 6, 7]) (isC := [0, 1]) (isR := [2, 3, 4, 5, 6, 7]) (As := [.ref x0, .int 0, .int (nI (n % z.2.2.2.2.2.1))]) (rest := []) ⟨hx, hb, hml, hown, hts⟩ (kL_weight_ok l D H.size cI cC cJ cZ cQ x0 v0 t0 h0 u0 a0 a1 a2 a3 a4 a5 a6 z1 (n % z.2.2.2.2.2.1) hq2 (by rw [e6]; exact hkw)) (vx_cwSW 3 hts gL_weights_L_ask rfl rfl rfl (by decide +kernel) ⟨Nat.le_of_ble_eq_true rfl, Nat.le_of_ble_eq_true rfl⟩) hP hD hK hS hA hN (by decide) rfl rfl rfl rfl hl.1 rfl (Nat.le_of_ble_eq_true rfl) dL_weights_56 ⟨Nat.le_of_ble_eq_true rfl, Nat.le_of_ble_eq_true rfl⟩ (fun H locs hP hD hS => ?_)
      refine k_topi (y := nI (sizeN (n / 12))) (by subst hz1; exact upd_at _ _ _) ?_
      refine lv_iload hx hb dL_weights_59 (lv_at hl 0 rfl) ?_
      refine lv_icmp_ne (tgt := 83) hx hb dL_weights_61 (by decide) (fun c_61 => ?_) (fun c_61 => ?_)
      · exact absurd rfl c_61
      · refine lv_aload_n hx hb dL_weights_64 rfl (lv_at hl 5 rfl) ?_
        refine lq_v (B0 := (LB cI cC cJ cZ cQ x0 a0 a1 a2 a3 a4 a5 a6 v0 v1 t0 t1 h0 u0 u1 pa rg z1 ((nx + 1) % 6) (min (cnt + 1) 6) (updS S nx z) wd hv hk hc)) (B1 := (LB cI cC cJ cZ cQ x0 a0 a1 a2 a3 a4 a5 a6 v0 v1 t0 t1 h0 u0 u1 pa rg z1 ((nx + 1) % 6) (min (cnt + 1) 6) (updS S nx z) wd hv hk hc)) (U := [0, 1, 2, 3, 4, 5, 6, 7]) (isC := [0, 1]) (isR := [2, 3, 4, 5, 6, 7]) (As := []) (rest := []) ⟨hx, hb, hml, hown, hts⟩ (kX7_total l D H.size cI cC cJ cZ cQ x0 v0 t0 h0 u0 a0 a1 a2 a3 a4 a5 a6 z1 hq2) (cwV 0 hts gL_weights_X7_total rfl rfl rfl (by decide +kernel) ⟨Nat.le_of_ble_eq_true rfl, Nat.le_of_ble_eq_true rfl⟩) hP hD hK hS hA hN (by decide) rfl rfl rfl 0 7 rfl rfl rfl rfl hl.1 rfl (Nat.le_of_ble_eq_true rfl) dL_weights_65 ⟨Nat.le_of_ble_eq_true rfl, Nat.le_of_ble_eq_true rfl⟩ (fun H locs hP hD hS => ?_)
        refine k_topi (y := sumW z.2.2.2.2.2.2.2.1 z.2.2.2.2.2.1 - z.2.2.2.2.2.2.2.1 (n % z.2.2.2.2.2.1) + nI (sizeN (n / 12))) (by subst hz1; exact sumW_upd _ hkw) ?_
        refine lv_iload hx hb dL_weights_68 (lv_at hl 3 rfl) ?_
        refine lv_iload hx hb dL_weights_70 (lv_at hl 1 rfl) ?_
        refine lv_isub hx hb dL_weights_72 ?_
        refine lv_iload hx hb dL_weights_73 (lv_at hl 0 rfl) ?_
        refine lv_iadd hx hb dL_weights_75 ?_
        refine lv_icmp_ne (tgt := 83) hx hb dL_weights_76 (by decide) (fun c_76 => ?_) (fun c_76 => ?_)
        · exact absurd rfl c_76
        · refine lv_iconst (v := 1) hx hb dL_weights_79 (by decide) ?_
          refine lv_goto (tgt := 84) hx hb dL_weights_80 (by decide) ?_
          refine W.widen (k := 2) (n := 12) (Nat.le_of_ble_eq_true rfl) (Nat.le_of_ble_eq_true rfl) ?_
          exact kr_oz (u := (z1, (nx + 1) % 6, min (cnt + 1) 6, updS S nx z, wd, hv, hk, hc)) (v := 1) hx hb hr hlocks rfl hP hD hS ⟨rfl, oI_push hI hz9, rfl, rfl, rfl⟩ dL_weights_84

abbrev rmmL_weights1 : Room := { frames := 9, cells := 2, slots := 12, locals := 170 }
set_option maxHeartbeats 4000000 in
set_option maxRecDepth 100000 in
theorem mL_weights1 (l : Launch) (hst : l.stackTraces = false) (D : va_G) (sz : Nat) (cI : ClassId) (cC : ClassId) (cJ : ClassId) (cZ : ClassId) (cQ : ClassId) (x0 : Nat) (a0 : Nat) (a1 : Nat) (a2 : Nat) (a3 : Nat) (a4 : Nat) (a5 : Nat) (a6 : Nat) (v0 : Nat) (v1 : Nat) (t0 : Nat) (t1 : Nat) (h0 : Nat) (u0 : Nat) (u1 : Nat) (pa : Nat → Nat) (rg : Nat → Option Nat) (z : StV) (nx : Nat) (cnt : Nat) (S : Nat → StV) (wd : Nat → Int64) (hv : Int32) (hk : Int32) (hc : Int32) (how : Nat) (n : Nat) (hI : oI z nx cnt S) (hrg : rgOK rg pa) (hn : n < 2147483648) (hh : how = 1) (hw12 : z.2.2.2.2.2.1 < 12) : Met l yL_weights wsL_weights rmmL_weights1 (va_Pc [.ref x0, .int (nI how), .int (nI n)] (oPre D sz (fmB (LB cI cC cJ cZ cQ x0 a0 a1 a2 a3 a4 a5 a6 v0 v1 t0 t1 h0 u0 u1 pa rg z nx cnt S wd hv hk hc) [0, 1, 2, 3, 4, 5, 6, 7]) (kT cI cC cJ cZ cQ))) (oQi D (fun (r9 : Int32) (u9 : OS) => 1 = r9 ∧ oI u9.1 u9.2.1 u9.2.2.1 u9.2.2.2.1 ∧ u9.2.1 = (nx + 1) % 6 ∧ u9.2.2.1 = min (cnt + 1) 6 ∧ u9.2.2.2.1 = updS S nx z) (fun (u9 : OS) => fmB (LB cI cC cJ cZ cQ x0 a0 a1 a2 a3 a4 a5 a6 v0 v1 t0 t1 h0 u0 u1 pa rg u9.1 u9.2.1 u9.2.2.1 u9.2.2.2.1 u9.2.2.2.2.1 u9.2.2.2.2.2.1 u9.2.2.2.2.2.2.1 u9.2.2.2.2.2.2.2) [0, 1, 2, 3, 4, 5, 6, 7]) (va_A (fmB (LB cI cC cJ cZ cQ x0 a0 a1 a2 a3 a4 a5 a6 v0 v1 t0 t1 h0 u0 u1 pa rg z nx cnt S wd hv hk hc) [0, 1, 2, 3, 4, 5, 6, 7]) sz)) 2 12 (va_A (fmB (LB cI cC cJ cZ cQ x0 a0 a1 a2 a3 a4 a5 a6 v0 v1 t0 t1 h0 u0 u1 pa rg z nx cnt S wd hv hk hc) [0, 1, 2, 3, 4, 5, 6, 7]) sz) := by
  refine k_metO (Qf := oQi D (fun (r9 : Int32) (u9 : OS) => 1 = r9 ∧ oI u9.1 u9.2.1 u9.2.2.1 u9.2.2.2.1 ∧ u9.2.1 = (nx + 1) % 6 ∧ u9.2.2.1 = min (cnt + 1) 6 ∧ u9.2.2.2.1 = updS S nx z) (fun (u9 : OS) => fmB (LB cI cC cJ cZ cQ x0 a0 a1 a2 a3 a4 a5 a6 v0 v1 t0 t1 h0 u0 u1 pa rg u9.1 u9.2.1 u9.2.2.1 u9.2.2.2.1 u9.2.2.2.2.1 u9.2.2.2.2.2.1 u9.2.2.2.2.2.2.1 u9.2.2.2.2.2.2.2) [0, 1, 2, 3, 4, 5, 6, 7])) (cc := cL_weights) (maxL := 13) (ret := (some .boolean)) (own := RL) (by decide) rfl (Nat.le_of_ble_eq_true rfl) rfl ?_
  intro p e s m args below meth c ls A H locs hx hb hr hts hown hlocks hml hsz hP hK hD hA hS hN hE hO hl
  have hl : lv_has ls 13 [(0, .ref x0), (1, .int (nI how)), (2, .int (nI n))] := hl
  obtain ⟨hw1, hwz, hlz⟩ := zI_b hI.1
  obtain ⟨hnx, hcnt, -⟩ := hI.2
  have hff := zI_f hI.1
  have hhf := zI_hf hI.1
  have hkw : n % z.2.2.2.2.2.1 < z.2.2.2.2.2.1 := Nat.mod_lt _ (by omega)
  refine lv_aload_n hx hb dL_weights_0 rfl (lv_at hl 0 rfl) ?_
  refine lq_v (B0 := (LB cI cC cJ cZ cQ x0 a0 a1 a2 a3 a4 a5 a6 v0 v1 t0 t1 h0 u0 u1 pa rg z nx cnt S wd hv hk hc)) (B1 := (LB cI cC cJ cZ cQ x0 a0 a1 a2 a3 a4 a5 a6 v0 v1 t0 t1 h0 u0 u1 pa rg z nx cnt S wd hv hk hc)) (U := [0, 1, 2, 3, 4, 5, 6, 7]) (isC := [0, 1]) (isR := [2, 3, 4, 5, 6, 7]) (As := []) (rest := []) ⟨hx, hb, hml, hown, hts⟩ (kX7_weights l D H.size cI cC cJ cZ cQ x0 v0 t0 h0 u0 a0 a1 a2 a3 a4 a5 a6 z) (cwV 0 hts gL_weights_X7_weights rfl rfl rfl (by decide +kernel) ⟨Nat.le_of_ble_eq_true rfl, Nat.le_of_ble_eq_true rfl⟩) hP hD hK hS hA hN (by decide) rfl rfl rfl 0 7 rfl rfl rfl rfl hl.1 rfl (Nat.le_of_ble_eq_true rfl) dL_weights_1 ⟨Nat.le_of_ble_eq_true rfl, Nat.le_of_ble_eq_true rfl⟩ (fun H locs hP hD hS => ?_)
  refine lv_istore_n (lv' := [(3, .int (nI z.2.2.2.2.2.1)), (0, .ref x0), (1, .int (nI how)), (2, .int (nI n))]) hx hb dL_weights_4 rfl hl (by decide) rfl (fun ls hl => ?_)
  refine lv_aload_n hx hb dL_weights_5 rfl (lv_at hl 1 rfl) ?_
  refine lq_v (B0 := (LB cI cC cJ cZ cQ x0 a0 a1 a2 a3 a4 a5 a6 v0 v1 t0 t1 h0 u0 u1 pa rg z nx cnt S wd hv hk hc)) (B1 := (LB cI cC cJ cZ cQ x0 a0 a1 a2 a3 a4 a5 a6 v0 v1 t0 t1 h0 u0 u1 pa rg z nx cnt S wd hv hk hc)) (U := [0, 1, 2, 3, 4, 5, 6, 7]) (isC := [0, 1]) (isR := [2, 3, 4, 5, 6, 7]) (As := []) (rest := []) ⟨hx, hb, hml, hown, hts⟩ (kX7_total l D H.size cI cC cJ cZ cQ x0 v0 t0 h0 u0 a0 a1 a2 a3 a4 a5 a6 z (by first | assumption | omega)) (cwV 0 hts gL_weights_X7_total rfl rfl rfl (by decide +kernel) ⟨Nat.le_of_ble_eq_true rfl, Nat.le_of_ble_eq_true rfl⟩) hP hD hK hS hA hN (by decide) rfl rfl rfl 0 7 rfl rfl rfl rfl hl.1 rfl (Nat.le_of_ble_eq_true rfl) dL_weights_6 ⟨Nat.le_of_ble_eq_true rfl, Nat.le_of_ble_eq_true rfl⟩ (fun H locs hP hD hS => ?_)
  refine lv_istore (lv' := [(4, .int (sumW z.2.2.2.2.2.2.2.1 z.2.2.2.2.2.1)), (3, .int (nI z.2.2.2.2.2.1)), (0, .ref x0), (1, .int (nI how)), (2, .int (nI n))]) hx hb dL_weights_9 hl (by decide) rfl (fun ls hl => ?_)
  refine lv_iload_n hx hb dL_weights_11 rfl (lv_at hl 4 rfl) ?_
  refine lv_iload_n hx hb dL_weights_12 rfl (lv_at hl 1 rfl) ?_
  refine lv_irem hx hb dL_weights_13 (fun h9 => by have h8 := (nI_eq (a := z.2.2.2.2.2.1) (b := 0) (by omega) (by omega)).mp h9; omega) ?_
  refine k_topi (y := nI (n % z.2.2.2.2.2.1)) (pk_rem (a := n) (d := z.2.2.2.2.2.1) (by omega) (by omega) (by omega)) ?_
  refine lv_istore (lv' := [(5, .int (nI (n % z.2.2.2.2.2.1))), (4, .int (sumW z.2.2.2.2.2.2.2.1 z.2.2.2.2.2.1)), (3, .int (nI z.2.2.2.2.2.1)), (0, .ref x0), (1, .int (nI how)), (2, .int (nI n))]) hx hb dL_weights_14 hl (by decide) rfl (fun ls hl => ?_)
  refine lv_aload_n hx hb dL_weights_16 rfl (lv_at hl 3 rfl) ?_
  refine lv_iconst (v := 0) hx hb dL_weights_17 (by decide) ?_
  refine lv_iload hx hb dL_weights_18 (lv_at hl 0 rfl) ?_
  refine lq_s (B0 := (LB cI cC cJ cZ cQ x0 a0 a1 a2 a3 a4 a5 a6 v0 v1 t0 t1 h0 u0 u1 pa rg z nx cnt S wd hv hk hc)) (B1 := (LB cI cC cJ cZ cQ x0 a0 a1 a2 a3 a4 a5 a6 v0 v1 t0 t1 h0 u0 u1 pa rg z nx cnt S wd hv hk hc)) (U := [0, 1, 2, 3, 4, 5, 6, 7]) (isC := [0, 1]) (isR := [2, 3, 4, 5, 6, 7]) (As := [.ref x0, .int 0, .int (nI (n % z.2.2.2.2.2.1))]) (rest := []) ⟨hx, hb, hml, hown, hts⟩ (kL_weight_ok l D H.size cI cC cJ cZ cQ x0 v0 t0 h0 u0 a0 a1 a2 a3 a4 a5 a6 z (n % z.2.2.2.2.2.1) (by first | assumption | omega) hkw) (vx_cwSW 3 hts gL_weights_L_ask rfl rfl rfl (by decide +kernel) ⟨Nat.le_of_ble_eq_true rfl, Nat.le_of_ble_eq_true rfl⟩) hP hD hK hS hA hN (by decide) rfl rfl rfl rfl hl.1 rfl (Nat.le_of_ble_eq_true rfl) dL_weights_20 ⟨Nat.le_of_ble_eq_true rfl, Nat.le_of_ble_eq_true rfl⟩ (fun H locs hP hD hS => ?_)
  refine lv_istore (lv' := [(6, .int (z.2.2.2.2.2.2.2.1 (n % z.2.2.2.2.2.1))), (5, .int (nI (n % z.2.2.2.2.2.1))), (4, .int (sumW z.2.2.2.2.2.2.2.1 z.2.2.2.2.2.1)), (3, .int (nI z.2.2.2.2.2.1)), (0, .ref x0), (1, .int (nI how)), (2, .int (nI n))]) hx hb dL_weights_23 hl (by decide) rfl (fun ls hl => ?_)
  refine lv_iload_n hx hb dL_weights_25 rfl (lv_at hl 6 rfl) ?_
  refine lv_bipush (v := 12) hx hb dL_weights_26 (by decide) ?_
  refine lv_idiv hx hb dL_weights_28 (by decide) ?_
  refine k_topi (y := nI (n / 12)) (pk_div (a := n) (d := 12) (by omega) (by omega) (by omega)) ?_
  refine ks_i0 (As := [.int (nI (n / 12))]) (rest := []) ⟨hx, hb, hml, hown, hts⟩ (mL_size l (n / 12) (by first | assumption | omega)) (va_cwS 1 hts gL_weights_L_size rfl rfl rfl (by decide +kernel) ⟨Nat.le_of_ble_eq_true rfl, Nat.le_of_ble_eq_true rfl⟩) hP hS rfl hl.1 rfl (Nat.le_of_ble_eq_true rfl) dL_weights_29 ⟨Nat.zero_le _, Nat.zero_le _⟩ (fun H locs hP hS => ?_)
  refine lv_istore (lv' := [(7, .int (nI (sizeN (n / 12)))), (6, .int (z.2.2.2.2.2.2.2.1 (n % z.2.2.2.2.2.1))), (5, .int (nI (n % z.2.2.2.2.2.1))), (4, .int (sumW z.2.2.2.2.2.2.2.1 z.2.2.2.2.2.1)), (3, .int (nI z.2.2.2.2.2.1)), (0, .ref x0), (1, .int (nI how)), (2, .int (nI n))]) hx hb dL_weights_32 hl (by decide) rfl (fun ls hl => ?_)
  refine lv_iload_n hx hb dL_weights_34 rfl (lv_at hl 6 rfl) ?_
  refine lv_if_ne (tgt := 85) hx hb dL_weights_35 (by decide) (fun c_35 => ?_) (fun c_35 => ?_)
  · have c_35 : ¬ how = 0 := fun h => c_35 ((nI_eq (a := how) (b := 0) (by omega) (by omega)).mpr h)
    refine lv_iload_n hx hb dL_weights_85 rfl (lv_at hl 6 rfl) ?_
    refine lv_iconst (v := 1) hx hb dL_weights_86 (by decide) ?_
    refine lv_icmp_ne (tgt := 172) hx hb dL_weights_87 (by decide) (fun c_87 => ?_) (fun c_87 => ?_)
    · have c_87 : ¬ how = 1 := fun h => c_87 ((nI_eq (a := how) (b := 1) (by omega) (by omega)).mpr h)
      omega
    · have c_87 : how = 1 := (nI_eq (a := how) (b := 1) (by omega) (by omega)).mp c_87
      refine lv_iload_n hx hb dL_weights_90 rfl (lv_at hl 4 rfl) ?_
      refine lv_bipush (v := 12) hx hb dL_weights_91 (by decide) ?_
      refine lv_icmp_ge (tgt := 172) hx hb dL_weights_93 (by decide) (fun c_93 => ?_) (fun c_93 => ?_)
      · have c_93 : 12 ≤ z.2.2.2.2.2.1 := (nI_leI (a := 12) (b := z.2.2.2.2.2.1) (by omega) (by omega)).mp c_93
        omega
      · have c_93 : ¬ 12 ≤ z.2.2.2.2.2.1 := fun h => c_93 ((nI_leI (a := 12) (b := z.2.2.2.2.2.1) (by omega) (by omega)).mpr h)
        refine lv_iload_n hx hb dL_weights_96 rfl (lv_at hl 7 rfl) ?_
        refine lv_iload_n hx hb dL_weights_97 rfl (lv_at hl 4 rfl) ?_
        refine lv_iconst (v := 1) hx hb dL_weights_98 (by decide) ?_
        refine lv_iadd hx hb dL_weights_99 ?_
        refine k_topi (y := nI (z.2.2.2.2.2.1 + 1)) (nI_add z.2.2.2.2.2.1 1) ?_
        refine lv_irem hx hb dL_weights_100 (fun h9 => by have h8 := (nI_eq (a := z.2.2.2.2.2.1 + 1) (b := 0) (by omega) (by omega)).mp h9; omega) ?_
        refine k_topi (y := nI (n % (z.2.2.2.2.2.1 + 1))) (pk_rem (a := n) (d := (z.2.2.2.2.2.1 + 1)) (by omega) (by omega) (by omega)) ?_
        refine lv_istore (lv' := [(8, .int (nI (n % (z.2.2.2.2.2.1 + 1)))), (7, .int (nI (sizeN (n / 12)))), (6, .int (z.2.2.2.2.2.2.2.1 (n % z.2.2.2.2.2.1))), (5, .int (nI (n % z.2.2.2.2.2.1))), (4, .int (sumW z.2.2.2.2.2.2.2.1 z.2.2.2.2.2.1)), (3, .int (nI z.2.2.2.2.2.1)), (0, .ref x0), (1, .int (nI how)), (2, .int (nI n))]) hx hb dL_weights_101 hl (by decide) rfl (fun ls hl => ?_)
        refine lv_aload_n hx hb dL_weights_103 rfl (lv_at hl 6 rfl) ?_
        refine lv_iconst (v := 0) hx hb dL_weights_104 (by decide) ?_
        refine lv_iload hx hb dL_weights_105 (lv_at hl 0 rfl) ?_
        rcases (Nat.lt_or_ge (n % (z.2.2.2.2.2.1 + 1)) z.2.2.2.2.2.1) with at9 | at8
        · have hka : n % (z.2.2.2.2.2.1 + 1) < z.2.2.2.2.2.1 + 1 := Nat.mod_lt _ (by omega)
          refine lq_s (B0 := (LB cI cC cJ cZ cQ x0 a0 a1 a2 a3 a4 a5 a6 v0 v1 t0 t1 h0 u0 u1 pa rg z nx cnt S wd hv hk hc)) (B1 := (LB cI cC cJ cZ cQ x0 a0 a1 a2 a3 a4 a5 a6 v0 v1 t0 t1 h0 u0 u1 pa rg z nx cnt S wd hv hk hc)) (U := [0, 1, 2, 3, 4, 5, 6, 7]) (isC := [0, 1]) (isR := [2, 3, 4, 5, 6, 7]) (As := [.ref x0, .int 0, .int (nI (n % (z.2.2.2.2.2.1 + 1)))]) (rest := []) ⟨hx, hb, hml, hown, hts⟩ (kL_weight_ok l D H.size cI cC cJ cZ cQ x0 v0 t0 h0 u0 a0 a1 a2 a3 a4 a5 a6 z (n % (z.2.2.2.2.2.1 + 1)) (by first | assumption | omega) at9) (vx_cwSW 3 hts gL_weights_L_ask rfl rfl rfl (by decide +kernel) ⟨Nat.le_of_ble_eq_true rfl, Nat.le_of_ble_eq_true rfl⟩) hP hD hK hS hA hN (by decide) rfl rfl rfl rfl hl.1 rfl (Nat.le_of_ble_eq_true rfl) dL_weights_107 ⟨Nat.le_of_ble_eq_true rfl, Nat.le_of_ble_eq_true rfl⟩ (fun H locs hP hD hS => ?_)
          refine lv_istore (lv' := [(9, .int (z.2.2.2.2.2.2.2.1 (n % (z.2.2.2.2.2.1 + 1)))), (8, .int (nI (n % (z.2.2.2.2.2.1 + 1)))), (7, .int (nI (sizeN (n / 12)))), (6, .int (z.2.2.2.2.2.2.2.1 (n % z.2.2.2.2.2.1))), (5, .int (nI (n % z.2.2.2.2.2.1))), (4, .int (sumW z.2.2.2.2.2.2.2.1 z.2.2.2.2.2.1)), (3, .int (nI z.2.2.2.2.2.1)), (0, .ref x0), (1, .int (nI how)), (2, .int (nI n))]) hx hb dL_weights_110 hl (by decide) rfl (fun ls hl => ?_)
          refine lv_aload_n hx hb dL_weights_112 rfl (lv_at hl 7 rfl) ?_
          refine lv_bipush (v := 6) hx hb dL_weights_113 (by decide) ?_
          refine lv_iload hx hb dL_weights_115 (lv_at hl 1 rfl) ?_
          refine lv_iload hx hb dL_weights_117 (lv_at hl 2 rfl) ?_
          refine lq_s (B0 := (LB cI cC cJ cZ cQ x0 a0 a1 a2 a3 a4 a5 a6 v0 v1 t0 t1 h0 u0 u1 pa rg z nx cnt S wd hv hk hc)) (B1 := (LB cI cC cJ cZ cQ x0 a0 a1 a2 a3 a4 a5 a6 v0 v1 t0 t1 h0 u0 u1 pa rg (z.1, z.2.1, z.2.2.1, z.2.2.2.1, z.2.2.2.2.1, z.2.2.2.2.2.1 + 1, z.2.2.2.2.2.2.1, insA z.2.2.2.2.2.2.2.1 (n % (z.2.2.2.2.2.1 + 1)) z.2.2.2.2.2.1 (nI (sizeN (n / 12))), z.2.2.2.2.2.2.2.2) ((nx + 1) % 6) (min (cnt + 1) 6) (updS S nx z) wd hv hk hc)) (U := [0, 1, 2, 3, 4, 5, 6, 7]) (isC := [0, 1, 2, 3, 4]) (isR := [5, 6, 7]) (As := [.ref x0, .int 6, .int (nI (n % (z.2.2.2.2.2.1 + 1))), .int (nI (sizeN (n / 12)))]) (rest := []) ⟨hx, hb, hml, hown, hts⟩ (kL_insertWeight_ok l D H.size cI cC cJ cZ cQ x0 v0 t0 h0 u0 a0 a1 a2 a3 a4 a5 a6 z v1 nx cnt pa S rg (n % (z.2.2.2.2.2.1 + 1)) (nI (sizeN (n / 12))) hnx hcnt hrg hw12 (by omega) (sz_lo _) (sz_hi _)) (vx_cwSW 4 hts gL_weights_L_call rfl rfl rfl (by decide +kernel) ⟨Nat.le_of_ble_eq_true rfl, Nat.le_of_ble_eq_true rfl⟩) hP hD hK hS hA hN (by decide) rfl rfl rfl rfl hl.1 rfl (Nat.le_of_ble_eq_true rfl) dL_weights_119 ⟨Nat.le_of_ble_eq_true rfl, Nat.le_of_ble_eq_true rfl⟩ (fun H locs hP hD hS => ?_)
          have hP : va_P D vwCl (fmB (LB cI cC cJ cZ cQ x0 a0 a1 a2 a3 a4 a5 a6 v0 v1 t0 t1 h0 u0 u1 pa rg (z.1, z.2.1, z.2.2.1, z.2.2.2.1, z.2.2.2.2.1, z.2.2.2.2.2.1 + 1, z.2.2.2.2.2.2.1, insA z.2.2.2.2.2.2.2.1 (n % (z.2.2.2.2.2.1 + 1)) z.2.2.2.2.2.1 (nI (sizeN (n / 12))), z.2.2.2.2.2.2.2.2) ((nx + 1) % 6) (min (cnt + 1) 6) (updS S nx z) wd hv hk hc) [0, 1, 2, 3, 4, 5, 6, 7]) H := hP
          have hD : va_D A (fmB (LB cI cC cJ cZ cQ x0 a0 a1 a2 a3 a4 a5 a6 v0 v1 t0 t1 h0 u0 u1 pa rg (z.1, z.2.1, z.2.2.1, z.2.2.2.1, z.2.2.2.2.1, z.2.2.2.2.2.1 + 1, z.2.2.2.2.2.2.1, insA z.2.2.2.2.2.2.2.1 (n % (z.2.2.2.2.2.1 + 1)) z.2.2.2.2.2.1 (nI (sizeN (n / 12))), z.2.2.2.2.2.2.2.2) ((nx + 1) % 6) (min (cnt + 1) 6) (updS S nx z) wd hv hk hc) [0, 1, 2, 3, 4, 5, 6, 7]) := hD
          obtain ⟨z1, hz1⟩ : ∃ q9 : StV, q9 = (z.1, z.2.1, z.2.2.1, z.2.2.2.1, z.2.2.2.2.1, z.2.2.2.2.2.1 + 1, z.2.2.2.2.2.2.1, insA z.2.2.2.2.2.2.2.1 (n % (z.2.2.2.2.2.1 + 1)) z.2.2.2.2.2.1 (nI (sizeN (n / 12))), z.2.2.2.2.2.2.2.2) := ⟨_, rfl⟩
          rw [← hz1] at hP hD
          have hP : va_P D vwCl (fmB (LB cI cC cJ cZ cQ x0 a0 a1 a2 a3 a4 a5 a6 v0 v1 t0 t1 h0 u0 u1 pa rg z1 ((nx + 1) % 6) (min (cnt + 1) 6) (updS S nx z) wd hv hk hc) [0, 1, 2, 3, 4, 5, 6, 7]) H := hP
          have hD : va_D A (fmB (LB cI cC cJ cZ cQ x0 a0 a1 a2 a3 a4 a5 a6 v0 v1 t0 t1 h0 u0 u1 pa rg z1 ((nx + 1) % 6) (min (cnt + 1) 6) (updS S nx z) wd hv hk hc) [0, 1, 2, 3, 4, 5, 6, 7]) := hD
          have hz9 : zI z1 := by subst hz1; exact zI_w hI.1 (by omega) (ins_rg (by omega) hff (sz_rng _))
          obtain ⟨hq1, hq2, hq3⟩ := zI_b hz9
          have hff1 := zI_f hz9
          have hhf1 := zI_hf hz9
          have e6 : z1.2.2.2.2.2.1 = z.2.2.2.2.2.1 + 1 := by subst hz1; rfl
          refine lv_iload_n hx hb dL_weights_122 rfl (lv_at hl 6 rfl) ?_
          refine lv_iconst (v := 1) hx hb dL_weights_123 (by decide) ?_
          refine lv_iadd hx hb dL_weights_124 ?_
          refine k_topi (y := nI (z.2.2.2.2.2.1 + 1)) (nI_add z.2.2.2.2.2.1 1) ?_
          refine lv_icmp_ne (tgt := 170) hx hb dL_weights_125 (by decide) (fun c_125 => ?_) (fun c_125 => ?_)
          · have c_125 : ¬ (z.2.2.2.2.2.1 + 1) = (z.2.2.2.2.2.1 + 1) := fun h => c_125 ((nI_eq (a := (z.2.2.2.2.2.1 + 1)) (b := (z.2.2.2.2.2.1 + 1)) (by omega) (by omega)).mpr h)
            exact absurd rfl c_125
          · have c_125 : (z.2.2.2.2.2.1 + 1) = (z.2.2.2.2.2.1 + 1) := (nI_eq (a := (z.2.2.2.2.2.1 + 1)) (b := (z.2.2.2.2.2.1 + 1)) (by omega) (by omega)).mp c_125
            refine lv_aload_n hx hb dL_weights_128 rfl (lv_at hl 7 rfl) ?_
            refine lv_iconst (v := 0) hx hb dL_weights_129 (by decide) ?_
            refine lv_iload hx hb dL_weights_130 (lv_at hl 1 rfl) ?_
            refine lq_s (B0 := (LB cI cC cJ cZ cQ x0 a0 a1 a2 a3 a4 a5 a6 v0 v1 t0 t1 h0 u0 u1 pa rg z1 ((nx + 1) % 6) (min (cnt + 1) 6) (updS S nx z) wd hv hk hc)) (B1 := (LB cI cC cJ cZ cQ x0 a0 a1 a2 a3 a4 a5 a6 v0 v1 t0 t1 h0 u0 u1 pa rg z1 ((nx + 1) % 6) (min (cnt + 1) 6) (updS S nx z) wd hv hk hc)) (U := [0, 1, 2, 3, 4, 5, 6, 7]) (isC := [0, 1]) (isR := [2, 3, 4, 5, 6, 7]) (As := [.ref x0, .int 0, .int (nI (n % (z.2.2.2.2.2.1 + 1)))]) (rest := []) ⟨hx, hb, hml, hown, hts⟩ (kL_weight_ok l D H.size cI cC cJ cZ cQ x0 v0 t0 h0 u0 a0 a1 a2 a3 a4 a5 a6 z1 (n % (z.2.2.2.2.2.1 + 1)) hq2 (by omega)) (vx_cwSW 3 hts gL_weights_L_ask rfl rfl rfl (by decide +kernel) ⟨Nat.le_of_ble_eq_true rfl, Nat.le_of_ble_eq_true rfl⟩) hP hD hK hS hA hN (by decide) rfl rfl rfl rfl hl.1 rfl (Nat.le_of_ble_eq_true rfl) dL_weights_132 ⟨Nat.le_of_ble_eq_true rfl, Nat.le_of_ble_eq_true rfl⟩ (fun H locs hP hD hS => ?_)
            refine k_topi (y := nI (sizeN (n / 12))) (by subst hz1; exact insA_at _ _ _ _) ?_
            refine lv_iload hx hb dL_weights_135 (lv_at hl 2 rfl) ?_
            refine lv_icmp_ne (tgt := 170) hx hb dL_weights_137 (by decide) (fun c_137 => ?_) (fun c_137 => ?_)
            · exact absurd rfl c_137
            · refine lv_aload_n hx hb dL_weights_140 rfl (lv_at hl 7 rfl) ?_
              refine lv_iconst (v := 0) hx hb dL_weights_141 (by decide) ?_
              refine lv_iload hx hb dL_weights_142 (lv_at hl 1 rfl) ?_
              refine lv_iconst (v := 1) hx hb dL_weights_144 (by decide) ?_
              refine lv_iadd hx hb dL_weights_145 ?_
              refine k_topi (y := nI ((n % (z.2.2.2.2.2.1 + 1)) + 1)) (nI_add (n % (z.2.2.2.2.2.1 + 1)) 1) ?_
              refine lq_s (B0 := (LB cI cC cJ cZ cQ x0 a0 a1 a2 a3 a4 a5 a6 v0 v1 t0 t1 h0 u0 u1 pa rg z1 ((nx + 1) % 6) (min (cnt + 1) 6) (updS S nx z) wd hv hk hc)) (B1 := (LB cI cC cJ cZ cQ x0 a0 a1 a2 a3 a4 a5 a6 v0 v1 t0 t1 h0 u0 u1 pa rg z1 ((nx + 1) % 6) (min (cnt + 1) 6) (updS S nx z) wd hv hk hc)) (U := [0, 1, 2, 3, 4, 5, 6, 7]) (isC := [0, 1]) (isR := [2, 3, 4, 5, 6, 7]) (As := [.ref x0, .int 0, .int (nI ((n % (z.2.2.2.2.2.1 + 1)) + 1))]) (rest := []) ⟨hx, hb, hml, hown, hts⟩ (kL_weight_ok l D H.size cI cC cJ cZ cQ x0 v0 t0 h0 u0 a0 a1 a2 a3 a4 a5 a6 z1 ((n % (z.2.2.2.2.2.1 + 1)) + 1) hq2 (by omega)) (vx_cwSW 3 hts gL_weights_L_ask rfl rfl rfl (by decide +kernel) ⟨Nat.le_of_ble_eq_true rfl, Nat.le_of_ble_eq_true rfl⟩) hP hD hK hS hA hN (by decide) rfl rfl rfl rfl hl.1 rfl (Nat.le_of_ble_eq_true rfl) dL_weights_146 ⟨Nat.le_of_ble_eq_true rfl, Nat.le_of_ble_eq_true rfl⟩ (fun H locs hP hD hS => ?_)
              refine k_topi (y := z.2.2.2.2.2.2.2.1 (n % (z.2.2.2.2.2.1 + 1))) (by subst hz1; exact insA_up at9) ?_
              refine lv_iload hx hb dL_weights_149 (lv_at hl 0 rfl) ?_
              refine lv_icmp_ne (tgt := 170) hx hb dL_weights_151 (by decide) (fun c_151 => ?_) (fun c_151 => ?_)
              · exact absurd rfl c_151
              · refine lv_aload_n hx hb dL_weights_154 rfl (lv_at hl 7 rfl) ?_
                refine lq_v (B0 := (LB cI cC cJ cZ cQ x0 a0 a1 a2 a3 a4 a5 a6 v0 v1 t0 t1 h0 u0 u1 pa rg z1 ((nx + 1) % 6) (min (cnt + 1) 6) (updS S nx z) wd hv hk hc)) (B1 := (LB cI cC cJ cZ cQ x0 a0 a1 a2 a3 a4 a5 a6 v0 v1 t0 t1 h0 u0 u1 pa rg z1 ((nx + 1) % 6) (min (cnt + 1) 6) (updS S nx z) wd hv hk hc)) (U := [0, 1, 2, 3, 4, 5, 6, 7]) (isC := [0, 1]) (isR := [2, 3, 4, 5, 6, 7]) (As := []) (rest := []) ⟨hx, hb, hml, hown, hts⟩ (kX7_total l D H.size cI cC cJ cZ cQ x0 v0 t0 h0 u0 a0 a1 a2 a3 a4 a5 a6 z1 hq2) (cwV 0 hts gL_weights_X7_total rfl rfl rfl (by decide +kernel) ⟨Nat.le_of_ble_eq_true rfl, Nat.le_of_ble_eq_true rfl⟩) hP hD hK hS hA hN (by decide) rfl rfl rfl 0 7 rfl rfl rfl rfl hl.1 rfl (Nat.le_of_ble_eq_true rfl) dL_weights_155 ⟨Nat.le_of_ble_eq_true rfl, Nat.le_of_ble_eq_true rfl⟩ (fun H locs hP hD hS => ?_)
                refine k_topi (y := sumW z.2.2.2.2.2.2.2.1 z.2.2.2.2.2.1 + nI (sizeN (n / 12))) (by subst hz1; exact sumW_insA _ (by omega) _ (Nat.le_refl _)) ?_
                refine lv_iload hx hb dL_weights_158 (lv_at hl 5 rfl) ?_
                refine lv_iload hx hb dL_weights_160 (lv_at hl 2 rfl) ?_
                refine lv_iadd hx hb dL_weights_162 ?_
                refine lv_icmp_ne (tgt := 170) hx hb dL_weights_163 (by decide) (fun c_163 => ?_) (fun c_163 => ?_)
                · exact absurd rfl c_163
                · refine lv_iconst (v := 1) hx hb dL_weights_166 (by decide) ?_
                  refine lv_goto (tgt := 171) hx hb dL_weights_167 (by decide) ?_
                  refine W.widen (k := 2) (n := 12) (Nat.le_of_ble_eq_true rfl) (Nat.le_of_ble_eq_true rfl) ?_
                  exact kr_oz (u := (z1, (nx + 1) % 6, min (cnt + 1) 6, updS S nx z, wd, hv, hk, hc)) (v := 1) hx hb hr hlocks rfl hP hD hS ⟨rfl, oI_push hI hz9, rfl, rfl, rfl⟩ dL_weights_171
        · have hka : n % (z.2.2.2.2.2.1 + 1) < z.2.2.2.2.2.1 + 1 := Nat.mod_lt _ (by omega)
          refine lq_sb (B0 := (LB cI cC cJ cZ cQ x0 a0 a1 a2 a3 a4 a5 a6 v0 v1 t0 t1 h0 u0 u1 pa rg z nx cnt S wd hv hk hc)) (B1 := (LB cI cC cJ cZ cQ x0 a0 a1 a2 a3 a4 a5 a6 v0 v1 t0 t1 h0 u0 u1 pa rg z nx cnt S wd hv hk hc)) (U := [0, 1, 2, 3, 4, 5, 6, 7]) (isC := [0, 1]) (isR := [2, 3, 4, 5, 6, 7]) (As := [.ref x0, .int 0, .int (nI (n % (z.2.2.2.2.2.1 + 1)))]) (rest := []) ⟨hx, hb, hml, hown, hts⟩ (kL_weight_bad l hst D H.size cI cC cJ cZ cQ x0 v0 t0 h0 u0 a0 a1 a2 a3 a4 a5 a6 z (nI (n % (z.2.2.2.2.2.1 + 1))) (Or.inr (n_le z.2.2.2.2.2.1 (n % (z.2.2.2.2.2.1 + 1)) (by omega) (by omega)))) (vx_cwSW 3 hts gL_weights_L_ask rfl rfl rfl (by decide +kernel) ⟨Nat.le_of_ble_eq_true rfl, Nat.le_of_ble_eq_true rfl⟩) hP hD hK hS hA hN hE hO (by decide) rfl rfl rfl rfl hl.1 rfl (Nat.le_of_ble_eq_true rfl) dL_weights_107 ⟨Nat.le_of_ble_eq_true rfl, Nat.le_of_ble_eq_true rfl⟩ (fun H locs hP hD hS => ?_)
          refine W.widen (k := 1) (n := 6) (Nat.le_refl _) (Nat.le_refl _) ?_
          refine lv_istore (lv' := [(9, .int (-1000000)), (8, .int (nI (n % (z.2.2.2.2.2.1 + 1)))), (7, .int (nI (sizeN (n / 12)))), (6, .int (z.2.2.2.2.2.2.2.1 (n % z.2.2.2.2.2.1))), (5, .int (nI (n % z.2.2.2.2.2.1))), (4, .int (sumW z.2.2.2.2.2.2.2.1 z.2.2.2.2.2.1)), (3, .int (nI z.2.2.2.2.2.1)), (0, .ref x0), (1, .int (nI how)), (2, .int (nI n))]) hx hb dL_weights_110 hl (by decide) rfl (fun ls hl => ?_)
          refine lv_aload_n hx hb dL_weights_112 rfl (lv_at hl 7 rfl) ?_
          refine lv_bipush (v := 6) hx hb dL_weights_113 (by decide) ?_
          refine lv_iload hx hb dL_weights_115 (lv_at hl 1 rfl) ?_
          refine lv_iload hx hb dL_weights_117 (lv_at hl 2 rfl) ?_
          refine lq_s (B0 := (LB cI cC cJ cZ cQ x0 a0 a1 a2 a3 a4 a5 a6 v0 v1 t0 t1 h0 u0 u1 pa rg z nx cnt S wd hv hk hc)) (B1 := (LB cI cC cJ cZ cQ x0 a0 a1 a2 a3 a4 a5 a6 v0 v1 t0 t1 h0 u0 u1 pa rg (z.1, z.2.1, z.2.2.1, z.2.2.2.1, z.2.2.2.2.1, z.2.2.2.2.2.1 + 1, z.2.2.2.2.2.2.1, insA z.2.2.2.2.2.2.2.1 (n % (z.2.2.2.2.2.1 + 1)) z.2.2.2.2.2.1 (nI (sizeN (n / 12))), z.2.2.2.2.2.2.2.2) ((nx + 1) % 6) (min (cnt + 1) 6) (updS S nx z) wd hv hk hc)) (U := [0, 1, 2, 3, 4, 5, 6, 7]) (isC := [0, 1, 2, 3, 4]) (isR := [5, 6, 7]) (As := [.ref x0, .int 6, .int (nI (n % (z.2.2.2.2.2.1 + 1))), .int (nI (sizeN (n / 12)))]) (rest := []) ⟨hx, hb, hml, hown, hts⟩ (kL_insertWeight_ok l D H.size cI cC cJ cZ cQ x0 v0 t0 h0 u0 a0 a1 a2 a3 a4 a5 a6 z v1 nx cnt pa S rg (n % (z.2.2.2.2.2.1 + 1)) (nI (sizeN (n / 12))) hnx hcnt hrg hw12 (by omega) (sz_lo _) (sz_hi _)) (vx_cwSW 4 hts gL_weights_L_call rfl rfl rfl (by decide +kernel) ⟨Nat.le_of_ble_eq_true rfl, Nat.le_of_ble_eq_true rfl⟩) hP hD hK hS hA hN (by decide) rfl rfl rfl rfl hl.1 rfl (Nat.le_of_ble_eq_true rfl) dL_weights_119 ⟨Nat.le_of_ble_eq_true rfl, Nat.le_of_ble_eq_true rfl⟩ (fun H locs hP hD hS => ?_)
          have hP : va_P D vwCl (fmB (LB cI cC cJ cZ cQ x0 a0 a1 a2 a3 a4 a5 a6 v0 v1 t0 t1 h0 u0 u1 pa rg (z.1, z.2.1, z.2.2.1, z.2.2.2.1, z.2.2.2.2.1, z.2.2.2.2.2.1 + 1, z.2.2.2.2.2.2.1, insA z.2.2.2.2.2.2.2.1 (n % (z.2.2.2.2.2.1 + 1)) z.2.2.2.2.2.1 (nI (sizeN (n / 12))), z.2.2.2.2.2.2.2.2) ((nx + 1) % 6) (min (cnt + 1) 6) (updS S nx z) wd hv hk hc) [0, 1, 2, 3, 4, 5, 6, 7]) H := hP
          have hD : va_D A (fmB (LB cI cC cJ cZ cQ x0 a0 a1 a2 a3 a4 a5 a6 v0 v1 t0 t1 h0 u0 u1 pa rg (z.1, z.2.1, z.2.2.1, z.2.2.2.1, z.2.2.2.2.1, z.2.2.2.2.2.1 + 1, z.2.2.2.2.2.2.1, insA z.2.2.2.2.2.2.2.1 (n % (z.2.2.2.2.2.1 + 1)) z.2.2.2.2.2.1 (nI (sizeN (n / 12))), z.2.2.2.2.2.2.2.2) ((nx + 1) % 6) (min (cnt + 1) 6) (updS S nx z) wd hv hk hc) [0, 1, 2, 3, 4, 5, 6, 7]) := hD
          obtain ⟨z1, hz1⟩ : ∃ q9 : StV, q9 = (z.1, z.2.1, z.2.2.1, z.2.2.2.1, z.2.2.2.2.1, z.2.2.2.2.2.1 + 1, z.2.2.2.2.2.2.1, insA z.2.2.2.2.2.2.2.1 (n % (z.2.2.2.2.2.1 + 1)) z.2.2.2.2.2.1 (nI (sizeN (n / 12))), z.2.2.2.2.2.2.2.2) := ⟨_, rfl⟩
          rw [← hz1] at hP hD
          have hP : va_P D vwCl (fmB (LB cI cC cJ cZ cQ x0 a0 a1 a2 a3 a4 a5 a6 v0 v1 t0 t1 h0 u0 u1 pa rg z1 ((nx + 1) % 6) (min (cnt + 1) 6) (updS S nx z) wd hv hk hc) [0, 1, 2, 3, 4, 5, 6, 7]) H := hP
          have hD : va_D A (fmB (LB cI cC cJ cZ cQ x0 a0 a1 a2 a3 a4 a5 a6 v0 v1 t0 t1 h0 u0 u1 pa rg z1 ((nx + 1) % 6) (min (cnt + 1) 6) (updS S nx z) wd hv hk hc) [0, 1, 2, 3, 4, 5, 6, 7]) := hD
          have hz9 : zI z1 := by subst hz1; exact zI_w hI.1 (by omega) (ins_rg (by omega) hff (sz_rng _))
          obtain ⟨hq1, hq2, hq3⟩ := zI_b hz9
          have hff1 := zI_f hz9
          have hhf1 := zI_hf hz9
          have e6 : z1.2.2.2.2.2.1 = z.2.2.2.2.2.1 + 1 := by subst hz1; rfl
          refine lv_iload_n hx hb dL_weights_122 rfl (lv_at hl 6 rfl) ?_
          refine lv_iconst (v := 1) hx hb dL_weights_123 (by decide) ?_
          refine lv_iadd hx hb dL_weights_124 ?_
          refine k_topi (y := nI (z.2.2.2.2.2.1 + 1)) (nI_add z.2.2.2.2.2.1 1) ?_
          refine lv_icmp_ne (tgt := 170) hx hb dL_weights_125 (by decide) (fun c_125 => ?_) (fun c_125 => ?_)
          · have c_125 : ¬ (z.2.2.2.2.2.1 + 1) = (z.2.2.2.2.2.1 + 1) := fun h => c_125 ((nI_eq (a := (z.2.2.2.2.2.1 + 1)) (b := (z.2.2.2.2.2.1 + 1)) (by omega) (by omega)).mpr h)
            exact absurd rfl c_125
          · have c_125 : (z.2.2.2.2.2.1 + 1) = (z.2.2.2.2.2.1 + 1) := (nI_eq (a := (z.2.2.2.2.2.1 + 1)) (b := (z.2.2.2.2.2.1 + 1)) (by omega) (by omega)).mp c_125
            refine lv_aload_n hx hb dL_weights_128 rfl (lv_at hl 7 rfl) ?_
            refine lv_iconst (v := 0) hx hb dL_weights_129 (by decide) ?_
            refine lv_iload hx hb dL_weights_130 (lv_at hl 1 rfl) ?_
            refine lq_s (B0 := (LB cI cC cJ cZ cQ x0 a0 a1 a2 a3 a4 a5 a6 v0 v1 t0 t1 h0 u0 u1 pa rg z1 ((nx + 1) % 6) (min (cnt + 1) 6) (updS S nx z) wd hv hk hc)) (B1 := (LB cI cC cJ cZ cQ x0 a0 a1 a2 a3 a4 a5 a6 v0 v1 t0 t1 h0 u0 u1 pa rg z1 ((nx + 1) % 6) (min (cnt + 1) 6) (updS S nx z) wd hv hk hc)) (U := [0, 1, 2, 3, 4, 5, 6, 7]) (isC := [0, 1]) (isR := [2, 3, 4, 5, 6, 7]) (As := [.ref x0, .int 0, .int (nI (n % (z.2.2.2.2.2.1 + 1)))]) (rest := []) ⟨hx, hb, hml, hown, hts⟩ (kL_weight_ok l D H.size cI cC cJ cZ cQ x0 v0 t0 h0 u0 a0 a1 a2 a3 a4 a5 a6 z1 (n % (z.2.2.2.2.2.1 + 1)) hq2 (by omega)) (vx_cwSW 3 hts gL_weights_L_ask rfl rfl rfl (by decide +kernel) ⟨Nat.le_of_ble_eq_true rfl, Nat.le_of_ble_eq_true rfl⟩) hP hD hK hS hA hN (by decide) rfl rfl rfl rfl hl.1 rfl (Nat.le_of_ble_eq_true rfl) dL_weights_132 ⟨Nat.le_of_ble_eq_true rfl, Nat.le_of_ble_eq_true rfl⟩ (fun H locs hP hD hS => ?_)
            refine k_topi (y := nI (sizeN (n / 12))) (by subst hz1; exact insA_at _ _ _ _) ?_
            refine lv_iload hx hb dL_weights_135 (lv_at hl 2 rfl) ?_
            refine lv_icmp_ne (tgt := 170) hx hb dL_weights_137 (by decide) (fun c_137 => ?_) (fun c_137 => ?_)
            · exact absurd rfl c_137
            · refine lv_aload_n hx hb dL_weights_140 rfl (lv_at hl 7 rfl) ?_
              refine lv_iconst (v := 0) hx hb dL_weights_141 (by decide) ?_
              refine lv_iload hx hb dL_weights_142 (lv_at hl 1 rfl) ?_
              refine lv_iconst (v := 1) hx hb dL_weights_144 (by decide) ?_
              refine lv_iadd hx hb dL_weights_145 ?_
              refine k_topi (y := nI ((n % (z.2.2.2.2.2.1 + 1)) + 1)) (nI_add (n % (z.2.2.2.2.2.1 + 1)) 1) ?_
              refine lq_sb (B0 := (LB cI cC cJ cZ cQ x0 a0 a1 a2 a3 a4 a5 a6 v0 v1 t0 t1 h0 u0 u1 pa rg z1 ((nx + 1) % 6) (min (cnt + 1) 6) (updS S nx z) wd hv hk hc)) (B1 := (LB cI cC cJ cZ cQ x0 a0 a1 a2 a3 a4 a5 a6 v0 v1 t0 t1 h0 u0 u1 pa rg z1 ((nx + 1) % 6) (min (cnt + 1) 6) (updS S nx z) wd hv hk hc)) (U := [0, 1, 2, 3, 4, 5, 6, 7]) (isC := [0, 1]) (isR := [2, 3, 4, 5, 6, 7]) (As := [.ref x0, .int 0, .int (nI ((n % (z.2.2.2.2.2.1 + 1)) + 1))]) (rest := []) ⟨hx, hb, hml, hown, hts⟩ (kL_weight_bad l hst D H.size cI cC cJ cZ cQ x0 v0 t0 h0 u0 a0 a1 a2 a3 a4 a5 a6 z1 (nI ((n % (z.2.2.2.2.2.1 + 1)) + 1)) (Or.inr (n_le z1.2.2.2.2.2.1 (n % (z.2.2.2.2.2.1 + 1) + 1) (by omega) (by omega)))) (vx_cwSW 3 hts gL_weights_L_ask rfl rfl rfl (by decide +kernel) ⟨Nat.le_of_ble_eq_true rfl, Nat.le_of_ble_eq_true rfl⟩) hP hD hK hS hA hN hE hO (by decide) rfl rfl rfl rfl hl.1 rfl (Nat.le_of_ble_eq_true rfl) dL_weights_146 ⟨Nat.le_of_ble_eq_true rfl, Nat.le_of_ble_eq_true rfl⟩ (fun H locs hP hD hS => ?_)
              refine W.widen (k := 2) (n := 12) (Nat.le_refl _) (Nat.le_refl _) ?_
              refine lv_iload hx hb dL_weights_149 (lv_at hl 0 rfl) ?_
              refine lv_icmp_ne (tgt := 170) hx hb dL_weights_151 (by decide) (fun h => absurd h (by decide)) (fun _ => ?_)
              refine lv_aload_n hx hb dL_weights_154 rfl (lv_at hl 7 rfl) ?_
              refine lq_v (B0 := (LB cI cC cJ cZ cQ x0 a0 a1 a2 a3 a4 a5 a6 v0 v1 t0 t1 h0 u0 u1 pa rg z1 ((nx + 1) % 6) (min (cnt + 1) 6) (updS S nx z) wd hv hk hc)) (B1 := (LB cI cC cJ cZ cQ x0 a0 a1 a2 a3 a4 a5 a6 v0 v1 t0 t1 h0 u0 u1 pa rg z1 ((nx + 1) % 6) (min (cnt + 1) 6) (updS S nx z) wd hv hk hc)) (U := [0, 1, 2, 3, 4, 5, 6, 7]) (isC := [0, 1]) (isR := [2, 3, 4, 5, 6, 7]) (As := []) (rest := []) ⟨hx, hb, hml, hown, hts⟩ (kX7_total l D H.size cI cC cJ cZ cQ x0 v0 t0 h0 u0 a0 a1 a2 a3 a4 a5 a6 z1 hq2) (cwV 0 hts gL_weights_X7_total rfl rfl rfl (by decide +kernel) ⟨Nat.le_of_ble_eq_true rfl, Nat.le_of_ble_eq_true rfl⟩) hP hD hK hS hA hN (by decide) rfl rfl rfl 0 7 rfl rfl rfl rfl hl.1 rfl (Nat.le_of_ble_eq_true rfl) dL_weights_155 ⟨Nat.le_of_ble_eq_true rfl, Nat.le_of_ble_eq_true rfl⟩ (fun H locs hP hD hS => ?_)
              refine k_topi (y := sumW z.2.2.2.2.2.2.2.1 z.2.2.2.2.2.1 + nI (sizeN (n / 12))) (by subst hz1; exact sumW_insA _ (by omega) _ (Nat.le_refl _)) ?_
              refine lv_iload hx hb dL_weights_158 (lv_at hl 5 rfl) ?_
              refine lv_iload hx hb dL_weights_160 (lv_at hl 2 rfl) ?_
              refine lv_iadd hx hb dL_weights_162 ?_
              refine lv_icmp_ne (tgt := 170) hx hb dL_weights_163 (by decide) (fun c_163 => ?_) (fun c_163 => ?_)
              · exact absurd rfl c_163
              · refine lv_iconst (v := 1) hx hb dL_weights_166 (by decide) ?_
                refine lv_goto (tgt := 171) hx hb dL_weights_167 (by decide) ?_
                exact kr_oz (u := (z1, (nx + 1) % 6, min (cnt + 1) 6, updS S nx z, wd, hv, hk, hc)) (v := 1) hx hb hr hlocks rfl hP hD hS ⟨rfl, oI_push hI hz9, rfl, rfl, rfl⟩ dL_weights_171
  · have c_35 : how = 0 := (nI_eq (a := how) (b := 0) (by omega) (by omega)).mp c_35
    omega

abbrev rmmL_weights2 : Room := { frames := 9, cells := 2, slots := 12, locals := 170 }
set_option maxHeartbeats 4000000 in
set_option maxRecDepth 100000 in
theorem mL_weights2 (l : Launch) (hst : l.stackTraces = false) (D : va_G) (sz : Nat) (cI : ClassId) (cC : ClassId) (cJ : ClassId) (cZ : ClassId) (cQ : ClassId) (x0 : Nat) (a0 : Nat) (a1 : Nat) (a2 : Nat) (a3 : Nat) (a4 : Nat) (a5 : Nat) (a6 : Nat) (v0 : Nat) (v1 : Nat) (t0 : Nat) (t1 : Nat) (h0 : Nat) (u0 : Nat) (u1 : Nat) (pa : Nat → Nat) (rg : Nat → Option Nat) (z : StV) (nx : Nat) (cnt : Nat) (S : Nat → StV) (wd : Nat → Int64) (hv : Int32) (hk : Int32) (hc : Int32) (how : Nat) (n : Nat) (hI : oI z nx cnt S) (hrg : rgOK rg pa) (hn : n < 2147483648) (hh : how = 2) (hw2 : 2 ≤ z.2.2.2.2.2.1) : Met l yL_weights wsL_weights rmmL_weights2 (va_Pc [.ref x0, .int (nI how), .int (nI n)] (oPre D sz (fmB (LB cI cC cJ cZ cQ x0 a0 a1 a2 a3 a4 a5 a6 v0 v1 t0 t1 h0 u0 u1 pa rg z nx cnt S wd hv hk hc) [0, 1, 2, 3, 4, 5, 6, 7]) (kT cI cC cJ cZ cQ))) (oQi D (fun (r9 : Int32) (u9 : OS) => 1 = r9 ∧ oI u9.1 u9.2.1 u9.2.2.1 u9.2.2.2.1 ∧ u9.2.1 = (nx + 1) % 6 ∧ u9.2.2.1 = min (cnt + 1) 6 ∧ u9.2.2.2.1 = updS S nx z) (fun (u9 : OS) => fmB (LB cI cC cJ cZ cQ x0 a0 a1 a2 a3 a4 a5 a6 v0 v1 t0 t1 h0 u0 u1 pa rg u9.1 u9.2.1 u9.2.2.1 u9.2.2.2.1 u9.2.2.2.2.1 u9.2.2.2.2.2.1 u9.2.2.2.2.2.2.1 u9.2.2.2.2.2.2.2) [0, 1, 2, 3, 4, 5, 6, 7]) (va_A (fmB (LB cI cC cJ cZ cQ x0 a0 a1 a2 a3 a4 a5 a6 v0 v1 t0 t1 h0 u0 u1 pa rg z nx cnt S wd hv hk hc) [0, 1, 2, 3, 4, 5, 6, 7]) sz)) 2 12 (va_A (fmB (LB cI cC cJ cZ cQ x0 a0 a1 a2 a3 a4 a5 a6 v0 v1 t0 t1 h0 u0 u1 pa rg z nx cnt S wd hv hk hc) [0, 1, 2, 3, 4, 5, 6, 7]) sz) := by
  refine k_metO (Qf := oQi D (fun (r9 : Int32) (u9 : OS) => 1 = r9 ∧ oI u9.1 u9.2.1 u9.2.2.1 u9.2.2.2.1 ∧ u9.2.1 = (nx + 1) % 6 ∧ u9.2.2.1 = min (cnt + 1) 6 ∧ u9.2.2.2.1 = updS S nx z) (fun (u9 : OS) => fmB (LB cI cC cJ cZ cQ x0 a0 a1 a2 a3 a4 a5 a6 v0 v1 t0 t1 h0 u0 u1 pa rg u9.1 u9.2.1 u9.2.2.1 u9.2.2.2.1 u9.2.2.2.2.1 u9.2.2.2.2.2.1 u9.2.2.2.2.2.2.1 u9.2.2.2.2.2.2.2) [0, 1, 2, 3, 4, 5, 6, 7])) (cc := cL_weights) (maxL := 13) (ret := (some .boolean)) (own := RL) (by decide) rfl (Nat.le_of_ble_eq_true rfl) rfl ?_
  intro p e s m args below meth c ls A H locs hx hb hr hts hown hlocks hml hsz hP hK hD hA hS hN hE hO hl
  have hl : lv_has ls 13 [(0, .ref x0), (1, .int (nI how)), (2, .int (nI n))] := hl
  obtain ⟨hw1, hwz, hlz⟩ := zI_b hI.1
  obtain ⟨hnx, hcnt, -⟩ := hI.2
  have hff := zI_f hI.1
  have hhf := zI_hf hI.1
  have hkw : n % z.2.2.2.2.2.1 < z.2.2.2.2.2.1 := Nat.mod_lt _ (by omega)
  refine lv_aload_n hx hb dL_weights_0 rfl (lv_at hl 0 rfl) ?_
  refine lq_v (B0 := (LB cI cC cJ cZ cQ x0 a0 a1 a2 a3 a4 a5 a6 v0 v1 t0 t1 h0 u0 u1 pa rg z nx cnt S wd hv hk hc)) (B1 := (LB cI cC cJ cZ cQ x0 a0 a1 a2 a3 a4 a5 a6 v0 v1 t0 t1 h0 u0 u1 pa rg z nx cnt S wd hv hk hc)) (U := [0, 1, 2, 3, 4, 5, 6, 7]) (isC := [0, 1]) (isR := [2, 3, 4, 5, 6, 7]) (As := []) (rest := []) ⟨hx, hb, hml, hown, hts⟩ (kX7_weights l D H.size cI cC cJ cZ cQ x0 v0 t0 h0 u0 a0 a1 a2 a3 a4 a5 a6 z) (cwV 0 hts gL_weights_X7_weights rfl rfl rfl (by decide +kernel) ⟨Nat.le_of_ble_eq_true rfl, Nat.le_of_ble_eq_true rfl⟩) hP hD hK hS hA hN (by decide) rfl rfl rfl 0 7 rfl rfl rfl rfl hl.1 rfl (Nat.le_of_ble_eq_true rfl) dL_weights_1 ⟨Nat.le_of_ble_eq_true rfl, Nat.le_of_ble_eq_true rfl⟩ (fun H locs hP hD hS => ?_)
  refine lv_istore_n (lv' := [(3, .int (nI z.2.2.2.2.2.1)), (0, .ref x0), (1, .int (nI how)), (2, .int (nI n))]) hx hb dL_weights_4 rfl hl (by decide) rfl (fun ls hl => ?_)
  refine lv_aload_n hx hb dL_weights_5 rfl (lv_at hl 1 rfl) ?_
  refine lq_v (B0 := (LB cI cC cJ cZ cQ x0 a0 a1 a2 a3 a4 a5 a6 v0 v1 t0 t1 h0 u0 u1 pa rg z nx cnt S wd hv hk hc)) (B1 := (LB cI cC cJ cZ cQ x0 a0 a1 a2 a3 a4 a5 a6 v0 v1 t0 t1 h0 u0 u1 pa rg z nx cnt S wd hv hk hc)) (U := [0, 1, 2, 3, 4, 5, 6, 7]) (isC := [0, 1]) (isR := [2, 3, 4, 5, 6, 7]) (As := []) (rest := []) ⟨hx, hb, hml, hown, hts⟩ (kX7_total l D H.size cI cC cJ cZ cQ x0 v0 t0 h0 u0 a0 a1 a2 a3 a4 a5 a6 z (by first | assumption | omega)) (cwV 0 hts gL_weights_X7_total rfl rfl rfl (by decide +kernel) ⟨Nat.le_of_ble_eq_true rfl, Nat.le_of_ble_eq_true rfl⟩) hP hD hK hS hA hN (by decide) rfl rfl rfl 0 7 rfl rfl rfl rfl hl.1 rfl (Nat.le_of_ble_eq_true rfl) dL_weights_6 ⟨Nat.le_of_ble_eq_true rfl, Nat.le_of_ble_eq_true rfl⟩ (fun H locs hP hD hS => ?_)
  refine lv_istore (lv' := [(4, .int (sumW z.2.2.2.2.2.2.2.1 z.2.2.2.2.2.1)), (3, .int (nI z.2.2.2.2.2.1)), (0, .ref x0), (1, .int (nI how)), (2, .int (nI n))]) hx hb dL_weights_9 hl (by decide) rfl (fun ls hl => ?_)
  refine lv_iload_n hx hb dL_weights_11 rfl (lv_at hl 4 rfl) ?_
  refine lv_iload_n hx hb dL_weights_12 rfl (lv_at hl 1 rfl) ?_
  refine lv_irem hx hb dL_weights_13 (fun h9 => by have h8 := (nI_eq (a := z.2.2.2.2.2.1) (b := 0) (by omega) (by omega)).mp h9; omega) ?_
  refine k_topi (y := nI (n % z.2.2.2.2.2.1)) (pk_rem (a := n) (d := z.2.2.2.2.2.1) (by omega) (by omega) (by omega)) ?_
  refine lv_istore (lv' := [(5, .int (nI (n % z.2.2.2.2.2.1))), (4, .int (sumW z.2.2.2.2.2.2.2.1 z.2.2.2.2.2.1)), (3, .int (nI z.2.2.2.2.2.1)), (0, .ref x0), (1, .int (nI how)), (2, .int (nI n))]) hx hb dL_weights_14 hl (by decide) rfl (fun ls hl => ?_)
  refine lv_aload_n hx hb dL_weights_16 rfl (lv_at hl 3 rfl) ?_
  refine lv_iconst (v := 0) hx hb dL_weights_17 (by decide) ?_
  refine lv_iload hx hb dL_weights_18 (lv_at hl 0 rfl) ?_
  refine lq_s (B0 := (LB cI cC cJ cZ cQ x0 a0 a1 a2 a3 a4 a5 a6 v0 v1 t0 t1 h0 u0 u1 pa rg z nx cnt S wd hv hk hc)) (B1 := (LB cI cC cJ cZ cQ x0 a0 a1 a2 a3 a4 a5 a6 v0 v1 t0 t1 h0 u0 u1 pa rg z nx cnt S wd hv hk hc)) (U := [0, 1, 2, 3, 4, 5, 6, 7]) (isC := [0, 1]) (isR := [2, 3, 4, 5, 6, 7]) (As := [.ref x0, .int 0, .int (nI (n % z.2.2.2.2.2.1))]) (rest := []) ⟨hx, hb, hml, hown, hts⟩ (kL_weight_ok l D H.size cI cC cJ cZ cQ x0 v0 t0 h0 u0 a0 a1 a2 a3 a4 a5 a6 z (n % z.2.2.2.2.2.1) (by first | assumption | omega) hkw) (vx_cwSW 3 hts gL_weights_L_ask rfl rfl rfl (by decide +kernel) ⟨Nat.le_of_ble_eq_true rfl, Nat.le_of_ble_eq_true rfl⟩) hP hD hK hS hA hN (by decide) rfl rfl rfl rfl hl.1 rfl (Nat.le_of_ble_eq_true rfl) dL_weights_20 ⟨Nat.le_of_ble_eq_true rfl, Nat.le_of_ble_eq_true rfl⟩ (fun H locs hP hD hS => ?_)
  refine lv_istore (lv' := [(6, .int (z.2.2.2.2.2.2.2.1 (n % z.2.2.2.2.2.1))), (5, .int (nI (n % z.2.2.2.2.2.1))), (4, .int (sumW z.2.2.2.2.2.2.2.1 z.2.2.2.2.2.1)), (3, .int (nI z.2.2.2.2.2.1)), (0, .ref x0), (1, .int (nI how)), (2, .int (nI n))]) hx hb dL_weights_23 hl (by decide) rfl (fun ls hl => ?_)
  refine lv_iload_n hx hb dL_weights_25 rfl (lv_at hl 6 rfl) ?_
  refine lv_bipush (v := 12) hx hb dL_weights_26 (by decide) ?_
  refine lv_idiv hx hb dL_weights_28 (by decide) ?_
  refine k_topi (y := nI (n / 12)) (pk_div (a := n) (d := 12) (by omega) (by omega) (by omega)) ?_
  refine ks_i0 (As := [.int (nI (n / 12))]) (rest := []) ⟨hx, hb, hml, hown, hts⟩ (mL_size l (n / 12) (by first | assumption | omega)) (va_cwS 1 hts gL_weights_L_size rfl rfl rfl (by decide +kernel) ⟨Nat.le_of_ble_eq_true rfl, Nat.le_of_ble_eq_true rfl⟩) hP hS rfl hl.1 rfl (Nat.le_of_ble_eq_true rfl) dL_weights_29 ⟨Nat.zero_le _, Nat.zero_le _⟩ (fun H locs hP hS => ?_)
  refine lv_istore (lv' := [(7, .int (nI (sizeN (n / 12)))), (6, .int (z.2.2.2.2.2.2.2.1 (n % z.2.2.2.2.2.1))), (5, .int (nI (n % z.2.2.2.2.2.1))), (4, .int (sumW z.2.2.2.2.2.2.2.1 z.2.2.2.2.2.1)), (3, .int (nI z.2.2.2.2.2.1)), (0, .ref x0), (1, .int (nI how)), (2, .int (nI n))]) hx hb dL_weights_32 hl (by decide) rfl (fun ls hl => ?_)
  refine lv_iload_n hx hb dL_weights_34 rfl (lv_at hl 6 rfl) ?_
  refine lv_if_ne (tgt := 85) hx hb dL_weights_35 (by decide) (fun c_35 => ?_) (fun c_35 => ?_)
  · have c_35 : ¬ how = 0 := fun h => c_35 ((nI_eq (a := how) (b := 0) (by omega) (by omega)).mpr h)
    refine lv_iload_n hx hb dL_weights_85 rfl (lv_at hl 6 rfl) ?_
    refine lv_iconst (v := 1) hx hb dL_weights_86 (by decide) ?_
    refine lv_icmp_ne (tgt := 172) hx hb dL_weights_87 (by decide) (fun c_87 => ?_) (fun c_87 => ?_)
    · have c_87 : ¬ how = 1 := fun h => c_87 ((nI_eq (a := how) (b := 1) (by omega) (by omega)).mpr h)
      refine lv_iload_n hx hb dL_weights_172 rfl (lv_at hl 6 rfl) ?_
      refine lv_iconst (v := 2) hx hb dL_weights_173 (by decide) ?_
      refine lv_icmp_ne (tgt := 247) hx hb dL_weights_174 (by decide) (fun c_174 => ?_) (fun c_174 => ?_)
      · have c_174 : ¬ how = 2 := fun h => c_174 ((nI_eq (a := how) (b := 2) (by omega) (by omega)).mpr h)
        omega
      · have c_174 : how = 2 := (nI_eq (a := how) (b := 2) (by omega) (by omega)).mp c_174
        refine lv_iload_n hx hb dL_weights_177 rfl (lv_at hl 4 rfl) ?_
        refine lv_iconst (v := 1) hx hb dL_weights_178 (by decide) ?_
        refine lv_icmp_le (tgt := 247) hx hb dL_weights_179 (by decide) (fun c_179 => ?_) (fun c_179 => ?_)
        · have c_179 : z.2.2.2.2.2.1 ≤ 1 := (nI_leI (a := z.2.2.2.2.2.1) (b := 1) (by omega) (by omega)).mp c_179
          omega
        · have c_179 : ¬ z.2.2.2.2.2.1 ≤ 1 := fun h => c_179 ((nI_leI (a := z.2.2.2.2.2.1) (b := 1) (by omega) (by omega)).mpr h)
          refine lv_aload_n hx hb dL_weights_182 rfl (lv_at hl 5 rfl) ?_
          refine lv_iconst (v := 0) hx hb dL_weights_183 (by decide) ?_
          refine lv_iload hx hb dL_weights_184 (lv_at hl 2 rfl) ?_
          refine lv_iconst (v := 1) hx hb dL_weights_186 (by decide) ?_
          refine lv_iadd hx hb dL_weights_187 ?_
          refine k_topi (y := nI ((n % z.2.2.2.2.2.1) + 1)) (nI_add (n % z.2.2.2.2.2.1) 1) ?_
          rcases (Nat.lt_or_ge (n % z.2.2.2.2.2.1 + 1) z.2.2.2.2.2.1) with at9 | at8
          · refine lq_s (B0 := (LB cI cC cJ cZ cQ x0 a0 a1 a2 a3 a4 a5 a6 v0 v1 t0 t1 h0 u0 u1 pa rg z nx cnt S wd hv hk hc)) (B1 := (LB cI cC cJ cZ cQ x0 a0 a1 a2 a3 a4 a5 a6 v0 v1 t0 t1 h0 u0 u1 pa rg z nx cnt S wd hv hk hc)) (U := [0, 1, 2, 3, 4, 5, 6, 7]) (isC := [0, 1]) (isR := [2, 3, 4, 5, 6, 7]) (As := [.ref x0, .int 0, .int (nI ((n % z.2.2.2.2.2.1) + 1))]) (rest := []) ⟨hx, hb, hml, hown, hts⟩ (kL_weight_ok l D H.size cI cC cJ cZ cQ x0 v0 t0 h0 u0 a0 a1 a2 a3 a4 a5 a6 z ((n % z.2.2.2.2.2.1) + 1) (by first | assumption | omega) at9) (vx_cwSW 3 hts gL_weights_L_ask rfl rfl rfl (by decide +kernel) ⟨Nat.le_of_ble_eq_true rfl, Nat.le_of_ble_eq_true rfl⟩) hP hD hK hS hA hN (by decide) rfl rfl rfl rfl hl.1 rfl (Nat.le_of_ble_eq_true rfl) dL_weights_188 ⟨Nat.le_of_ble_eq_true rfl, Nat.le_of_ble_eq_true rfl⟩ (fun H locs hP hD hS => ?_)
            refine lv_istore (lv' := [(8, .int (z.2.2.2.2.2.2.2.1 ((n % z.2.2.2.2.2.1) + 1))), (7, .int (nI (sizeN (n / 12)))), (6, .int (z.2.2.2.2.2.2.2.1 (n % z.2.2.2.2.2.1))), (5, .int (nI (n % z.2.2.2.2.2.1))), (4, .int (sumW z.2.2.2.2.2.2.2.1 z.2.2.2.2.2.1)), (3, .int (nI z.2.2.2.2.2.1)), (0, .ref x0), (1, .int (nI how)), (2, .int (nI n))]) hx hb dL_weights_191 hl (by decide) rfl (fun ls hl => ?_)
            refine lv_aload_n hx hb dL_weights_193 rfl (lv_at hl 6 rfl) ?_
            refine lv_bipush (v := 7) hx hb dL_weights_194 (by decide) ?_
            refine lv_iload hx hb dL_weights_196 (lv_at hl 3 rfl) ?_
            refine lv_iconst (v := 0) hx hb dL_weights_198 (by decide) ?_
            refine lq_s (B0 := (LB cI cC cJ cZ cQ x0 a0 a1 a2 a3 a4 a5 a6 v0 v1 t0 t1 h0 u0 u1 pa rg z nx cnt S wd hv hk hc)) (B1 := (LB cI cC cJ cZ cQ x0 a0 a1 a2 a3 a4 a5 a6 v0 v1 t0 t1 h0 u0 u1 pa rg (z.1, z.2.1, z.2.2.1, z.2.2.2.1, z.2.2.2.2.1, z.2.2.2.2.2.1 - 1, z.2.2.2.2.2.2.1, delA z.2.2.2.2.2.2.2.1 (n % z.2.2.2.2.2.1) z.2.2.2.2.2.1, z.2.2.2.2.2.2.2.2) ((nx + 1) % 6) (min (cnt + 1) 6) (updS S nx z) wd hv hk hc)) (U := [0, 1, 2, 3, 4, 5, 6, 7]) (isC := [0, 1, 2, 3, 4]) (isR := [5, 6, 7]) (As := [.ref x0, .int 7, .int (nI (n % z.2.2.2.2.2.1)), .int 0]) (rest := []) ⟨hx, hb, hml, hown, hts⟩ (kL_removeWeight_ok l D H.size cI cC cJ cZ cQ x0 v0 t0 h0 u0 a0 a1 a2 a3 a4 a5 a6 z v1 nx cnt pa S rg (n % z.2.2.2.2.2.1) 0 hnx hcnt hrg (by first | assumption | omega) hkw hw2) (vx_cwSW 4 hts gL_weights_L_call rfl rfl rfl (by decide +kernel) ⟨Nat.le_of_ble_eq_true rfl, Nat.le_of_ble_eq_true rfl⟩) hP hD hK hS hA hN (by decide) rfl rfl rfl rfl hl.1 rfl (Nat.le_of_ble_eq_true rfl) dL_weights_199 ⟨Nat.le_of_ble_eq_true rfl, Nat.le_of_ble_eq_true rfl⟩ (fun H locs hP hD hS => ?_)
            have hP : va_P D vwCl (fmB (LB cI cC cJ cZ cQ x0 a0 a1 a2 a3 a4 a5 a6 v0 v1 t0 t1 h0 u0 u1 pa rg (z.1, z.2.1, z.2.2.1, z.2.2.2.1, z.2.2.2.2.1, z.2.2.2.2.2.1 - 1, z.2.2.2.2.2.2.1, delA z.2.2.2.2.2.2.2.1 (n % z.2.2.2.2.2.1) z.2.2.2.2.2.1, z.2.2.2.2.2.2.2.2) ((nx + 1) % 6) (min (cnt + 1) 6) (updS S nx z) wd hv hk hc) [0, 1, 2, 3, 4, 5, 6, 7]) H := hP
            have hD : va_D A (fmB (LB cI cC cJ cZ cQ x0 a0 a1 a2 a3 a4 a5 a6 v0 v1 t0 t1 h0 u0 u1 pa rg (z.1, z.2.1, z.2.2.1, z.2.2.2.1, z.2.2.2.2.1, z.2.2.2.2.2.1 - 1, z.2.2.2.2.2.2.1, delA z.2.2.2.2.2.2.2.1 (n % z.2.2.2.2.2.1) z.2.2.2.2.2.1, z.2.2.2.2.2.2.2.2) ((nx + 1) % 6) (min (cnt + 1) 6) (updS S nx z) wd hv hk hc) [0, 1, 2, 3, 4, 5, 6, 7]) := hD
            obtain ⟨z1, hz1⟩ : ∃ q9 : StV, q9 = (z.1, z.2.1, z.2.2.1, z.2.2.2.1, z.2.2.2.2.1, z.2.2.2.2.2.1 - 1, z.2.2.2.2.2.2.1, delA z.2.2.2.2.2.2.2.1 (n % z.2.2.2.2.2.1) z.2.2.2.2.2.1, z.2.2.2.2.2.2.2.2) := ⟨_, rfl⟩
            rw [← hz1] at hP hD
            have hP : va_P D vwCl (fmB (LB cI cC cJ cZ cQ x0 a0 a1 a2 a3 a4 a5 a6 v0 v1 t0 t1 h0 u0 u1 pa rg z1 ((nx + 1) % 6) (min (cnt + 1) 6) (updS S nx z) wd hv hk hc) [0, 1, 2, 3, 4, 5, 6, 7]) H := hP
            have hD : va_D A (fmB (LB cI cC cJ cZ cQ x0 a0 a1 a2 a3 a4 a5 a6 v0 v1 t0 t1 h0 u0 u1 pa rg z1 ((nx + 1) % 6) (min (cnt + 1) 6) (updS S nx z) wd hv hk hc) [0, 1, 2, 3, 4, 5, 6, 7]) := hD
            have hz9 : zI z1 := by subst hz1; exact zI_w hI.1 (by omega) (del_rg hff)
            obtain ⟨hq1, hq2, hq3⟩ := zI_b hz9
            have hff1 := zI_f hz9
            have hhf1 := zI_hf hz9
            have e6 : z1.2.2.2.2.2.1 = z.2.2.2.2.2.1 - 1 := by subst hz1; rfl
            refine lv_iload hx hb dL_weights_202 (lv_at hl 2 rfl) ?_
            refine lv_icmp_ne (tgt := 245) hx hb dL_weights_204 (by decide) (fun c_204 => ?_) (fun c_204 => ?_)
            · exact absurd rfl c_204
            · refine lv_aload_n hx hb dL_weights_207 rfl (lv_at hl 6 rfl) ?_
              refine lq_v (B0 := (LB cI cC cJ cZ cQ x0 a0 a1 a2 a3 a4 a5 a6 v0 v1 t0 t1 h0 u0 u1 pa rg z1 ((nx + 1) % 6) (min (cnt + 1) 6) (updS S nx z) wd hv hk hc)) (B1 := (LB cI cC cJ cZ cQ x0 a0 a1 a2 a3 a4 a5 a6 v0 v1 t0 t1 h0 u0 u1 pa rg z1 ((nx + 1) % 6) (min (cnt + 1) 6) (updS S nx z) wd hv hk hc)) (U := [0, 1, 2, 3, 4, 5, 6, 7]) (isC := [0, 1]) (isR := [2, 3, 4, 5, 6, 7]) (As := []) (rest := []) ⟨hx, hb, hml, hown, hts⟩ (kX7_weights l D H.size cI cC cJ cZ cQ x0 v0 t0 h0 u0 a0 a1 a2 a3 a4 a5 a6 z1) (cwV 0 hts gL_weights_X7_weights rfl rfl rfl (by decide +kernel) ⟨Nat.le_of_ble_eq_true rfl, Nat.le_of_ble_eq_true rfl⟩) hP hD hK hS hA hN (by decide) rfl rfl rfl 0 7 rfl rfl rfl rfl hl.1 rfl (Nat.le_of_ble_eq_true rfl) dL_weights_208 ⟨Nat.le_of_ble_eq_true rfl, Nat.le_of_ble_eq_true rfl⟩ (fun H locs hP hD hS => ?_)
              refine lv_iload_n hx hb dL_weights_211 rfl (lv_at hl 5 rfl) ?_
              refine lv_iconst (v := 1) hx hb dL_weights_212 (by decide) ?_
              refine lv_isub hx hb dL_weights_213 ?_
              refine k_topi (y := nI (z.2.2.2.2.2.1 - 1)) (pk_sub (a := z.2.2.2.2.2.1) (b := 1) (by omega)) ?_
              refine lv_icmp_ne (tgt := 245) hx hb dL_weights_214 (by decide) (fun c_214 => ?_) (fun c_214 => ?_)
              · have c_214 : ¬ z1.2.2.2.2.2.1 = (z.2.2.2.2.2.1 - 1) := fun h => c_214 ((nI_eq (a := z1.2.2.2.2.2.1) (b := (z.2.2.2.2.2.1 - 1)) (by omega) (by omega)).mpr h)
                exact absurd e6 c_214
              · have c_214 : z1.2.2.2.2.2.1 = (z.2.2.2.2.2.1 - 1) := (nI_eq (a := z1.2.2.2.2.2.1) (b := (z.2.2.2.2.2.1 - 1)) (by omega) (by omega)).mp c_214
                refine lv_aload_n hx hb dL_weights_217 rfl (lv_at hl 6 rfl) ?_
                refine lv_iconst (v := 0) hx hb dL_weights_218 (by decide) ?_
                refine lv_iload hx hb dL_weights_219 (lv_at hl 3 rfl) ?_
                refine lq_s (B0 := (LB cI cC cJ cZ cQ x0 a0 a1 a2 a3 a4 a5 a6 v0 v1 t0 t1 h0 u0 u1 pa rg z1 ((nx + 1) % 6) (min (cnt + 1) 6) (updS S nx z) wd hv hk hc)) (B1 := (LB cI cC cJ cZ cQ x0 a0 a1 a2 a3 a4 a5 a6 v0 v1 t0 t1 h0 u0 u1 pa rg z1 ((nx + 1) % 6) (min (cnt + 1) 6) (updS S nx z) wd hv hk hc)) (U := [0, 1, 2, 3, 4, 5, 6, 7]) (isC := [0, 1]) (isR := [2, 3, 4, 5, 6, 7]) (As := [.ref x0, .int 0, .int (nI (n % z.2.2.2.2.2.1))]) (rest := []) ⟨hx, hb, hml, hown, hts⟩ (kL_weight_ok l D H.size cI cC cJ cZ cQ x0 v0 t0 h0 u0 a0 a1 a2 a3 a4 a5 a6 z1 (n % z.2.2.2.2.2.1) hq2 (by omega)) (vx_cwSW 3 hts gL_weights_L_ask rfl rfl rfl (by decide +kernel) ⟨Nat.le_of_ble_eq_true rfl, Nat.le_of_ble_eq_true rfl⟩) hP hD hK hS hA hN (by decide) rfl rfl rfl rfl hl.1 rfl (Nat.le_of_ble_eq_true rfl) dL_weights_221 ⟨Nat.le_of_ble_eq_true rfl, Nat.le_of_ble_eq_true rfl⟩ (fun H locs hP hD hS => ?_)
                refine k_topi (y := z.2.2.2.2.2.2.2.1 (n % z.2.2.2.2.2.1 + 1)) (by subst hz1; exact delA_at at9) ?_
                refine lv_iload hx hb dL_weights_224 (lv_at hl 0 rfl) ?_
                refine lv_icmp_ne (tgt := 245) hx hb dL_weights_226 (by decide) (fun c_226 => ?_) (fun c_226 => ?_)
                · exact absurd rfl c_226
                · refine lv_aload_n hx hb dL_weights_229 rfl (lv_at hl 6 rfl) ?_
                  refine lq_v (B0 := (LB cI cC cJ cZ cQ x0 a0 a1 a2 a3 a4 a5 a6 v0 v1 t0 t1 h0 u0 u1 pa rg z1 ((nx + 1) % 6) (min (cnt + 1) 6) (updS S nx z) wd hv hk hc)) (B1 := (LB cI cC cJ cZ cQ x0 a0 a1 a2 a3 a4 a5 a6 v0 v1 t0 t1 h0 u0 u1 pa rg z1 ((nx + 1) % 6) (min (cnt + 1) 6) (updS S nx z) wd hv hk hc)) (U := [0, 1, 2, 3, 4, 5, 6, 7]) (isC := [0, 1]) (isR := [2, 3, 4, 5, 6, 7]) (As := []) (rest := []) ⟨hx, hb, hml, hown, hts⟩ (kX7_total l D H.size cI cC cJ cZ cQ x0 v0 t0 h0 u0 a0 a1 a2 a3 a4 a5 a6 z1 hq2) (cwV 0 hts gL_weights_X7_total rfl rfl rfl (by decide +kernel) ⟨Nat.le_of_ble_eq_true rfl, Nat.le_of_ble_eq_true rfl⟩) hP hD hK hS hA hN (by decide) rfl rfl rfl 0 7 rfl rfl rfl rfl hl.1 rfl (Nat.le_of_ble_eq_true rfl) dL_weights_230 ⟨Nat.le_of_ble_eq_true rfl, Nat.le_of_ble_eq_true rfl⟩ (fun H locs hP hD hS => ?_)
                  refine k_topi (y := sumW z.2.2.2.2.2.2.2.1 z.2.2.2.2.2.1 - z.2.2.2.2.2.2.2.1 (n % z.2.2.2.2.2.1)) (by subst hz1; exact (sumW_delA (f := z.2.2.2.2.2.2.2.1) (i := n % z.2.2.2.2.2.1) (N := z.2.2.2.2.2.1) (z.2.2.2.2.2.1 - 1) (by omega) (by omega)).trans (by rw [show z.2.2.2.2.2.1 - 1 + 1 = z.2.2.2.2.2.1 from by omega])) ?_
                  refine lv_iload hx hb dL_weights_233 (lv_at hl 4 rfl) ?_
                  refine lv_iload hx hb dL_weights_235 (lv_at hl 2 rfl) ?_
                  refine lv_isub hx hb dL_weights_237 ?_
                  refine lv_icmp_ne (tgt := 245) hx hb dL_weights_238 (by decide) (fun c_238 => ?_) (fun c_238 => ?_)
                  · exact absurd rfl c_238
                  · refine lv_iconst (v := 1) hx hb dL_weights_241 (by decide) ?_
                    refine lv_goto (tgt := 246) hx hb dL_weights_242 (by decide) ?_
                    refine W.widen (k := 2) (n := 12) (Nat.le_of_ble_eq_true rfl) (Nat.le_of_ble_eq_true rfl) ?_
                    exact kr_oz (u := (z1, (nx + 1) % 6, min (cnt + 1) 6, updS S nx z, wd, hv, hk, hc)) (v := 1) hx hb hr hlocks rfl hP hD hS ⟨rfl, oI_push hI hz9, rfl, rfl, rfl⟩ dL_weights_246
          · refine lq_sb (B0 := (LB cI cC cJ cZ cQ x0 a0 a1 a2 a3 a4 a5 a6 v0 v1 t0 t1 h0 u0 u1 pa rg z nx cnt S wd hv hk hc)) (B1 := (LB cI cC cJ cZ cQ x0 a0 a1 a2 a3 a4 a5 a6 v0 v1 t0 t1 h0 u0 u1 pa rg z nx cnt S wd hv hk hc)) (U := [0, 1, 2, 3, 4, 5, 6, 7]) (isC := [0, 1]) (isR := [2, 3, 4, 5, 6, 7]) (As := [.ref x0, .int 0, .int (nI ((n % z.2.2.2.2.2.1) + 1))]) (rest := []) ⟨hx, hb, hml, hown, hts⟩ (kL_weight_bad l hst D H.size cI cC cJ cZ cQ x0 v0 t0 h0 u0 a0 a1 a2 a3 a4 a5 a6 z (nI ((n % z.2.2.2.2.2.1) + 1)) (Or.inr (n_le z.2.2.2.2.2.1 (n % z.2.2.2.2.2.1 + 1) at8 (by omega)))) (vx_cwSW 3 hts gL_weights_L_ask rfl rfl rfl (by decide +kernel) ⟨Nat.le_of_ble_eq_true rfl, Nat.le_of_ble_eq_true rfl⟩) hP hD hK hS hA hN hE hO (by decide) rfl rfl rfl rfl hl.1 rfl (Nat.le_of_ble_eq_true rfl) dL_weights_188 ⟨Nat.le_of_ble_eq_true rfl, Nat.le_of_ble_eq_true rfl⟩ (fun H locs hP hD hS => ?_)
            refine W.widen (k := 1) (n := 6) (Nat.le_refl _) (Nat.le_refl _) ?_
            refine lv_istore (lv' := [(8, .int (-1000000)), (7, .int (nI (sizeN (n / 12)))), (6, .int (z.2.2.2.2.2.2.2.1 (n % z.2.2.2.2.2.1))), (5, .int (nI (n % z.2.2.2.2.2.1))), (4, .int (sumW z.2.2.2.2.2.2.2.1 z.2.2.2.2.2.1)), (3, .int (nI z.2.2.2.2.2.1)), (0, .ref x0), (1, .int (nI how)), (2, .int (nI n))]) hx hb dL_weights_191 hl (by decide) rfl (fun ls hl => ?_)
            refine lv_aload_n hx hb dL_weights_193 rfl (lv_at hl 6 rfl) ?_
            refine lv_bipush (v := 7) hx hb dL_weights_194 (by decide) ?_
            refine lv_iload hx hb dL_weights_196 (lv_at hl 3 rfl) ?_
            refine lv_iconst (v := 0) hx hb dL_weights_198 (by decide) ?_
            refine lq_s (B0 := (LB cI cC cJ cZ cQ x0 a0 a1 a2 a3 a4 a5 a6 v0 v1 t0 t1 h0 u0 u1 pa rg z nx cnt S wd hv hk hc)) (B1 := (LB cI cC cJ cZ cQ x0 a0 a1 a2 a3 a4 a5 a6 v0 v1 t0 t1 h0 u0 u1 pa rg (z.1, z.2.1, z.2.2.1, z.2.2.2.1, z.2.2.2.2.1, z.2.2.2.2.2.1 - 1, z.2.2.2.2.2.2.1, delA z.2.2.2.2.2.2.2.1 (n % z.2.2.2.2.2.1) z.2.2.2.2.2.1, z.2.2.2.2.2.2.2.2) ((nx + 1) % 6) (min (cnt + 1) 6) (updS S nx z) wd hv hk hc)) (U := [0, 1, 2, 3, 4, 5, 6, 7]) (isC := [0, 1, 2, 3, 4]) (isR := [5, 6, 7]) (As := [.ref x0, .int 7, .int (nI (n % z.2.2.2.2.2.1)), .int 0]) (rest := []) ⟨hx, hb, hml, hown, hts⟩ (kL_removeWeight_ok l D H.size cI cC cJ cZ cQ x0 v0 t0 h0 u0 a0 a1 a2 a3 a4 a5 a6 z v1 nx cnt pa S rg (n % z.2.2.2.2.2.1) 0 hnx hcnt hrg (by first | assumption | omega) hkw hw2) (vx_cwSW 4 hts gL_weights_L_call rfl rfl rfl (by decide +kernel) ⟨Nat.le_of_ble_eq_true rfl, Nat.le_of_ble_eq_true rfl⟩) hP hD hK hS hA hN (by decide) rfl rfl rfl rfl hl.1 rfl (Nat.le_of_ble_eq_true rfl) dL_weights_199 ⟨Nat.le_of_ble_eq_true rfl, Nat.le_of_ble_eq_true rfl⟩ (fun H locs hP hD hS => ?_)
            have hP : va_P D vwCl (fmB (LB cI cC cJ cZ cQ x0 a0 a1 a2 a3 a4 a5 a6 v0 v1 t0 t1 h0 u0 u1 pa rg (z.1, z.2.1, z.2.2.1, z.2.2.2.1, z.2.2.2.2.1, z.2.2.2.2.2.1 - 1, z.2.2.2.2.2.2.1, delA z.2.2.2.2.2.2.2.1 (n % z.2.2.2.2.2.1) z.2.2.2.2.2.1, z.2.2.2.2.2.2.2.2) ((nx + 1) % 6) (min (cnt + 1) 6) (updS S nx z) wd hv hk hc) [0, 1, 2, 3, 4, 5, 6, 7]) H := hP
            have hD : va_D A (fmB (LB cI cC cJ cZ cQ x0 a0 a1 a2 a3 a4 a5 a6 v0 v1 t0 t1 h0 u0 u1 pa rg (z.1, z.2.1, z.2.2.1, z.2.2.2.1, z.2.2.2.2.1, z.2.2.2.2.2.1 - 1, z.2.2.2.2.2.2.1, delA z.2.2.2.2.2.2.2.1 (n % z.2.2.2.2.2.1) z.2.2.2.2.2.1, z.2.2.2.2.2.2.2.2) ((nx + 1) % 6) (min (cnt + 1) 6) (updS S nx z) wd hv hk hc) [0, 1, 2, 3, 4, 5, 6, 7]) := hD
            obtain ⟨z1, hz1⟩ : ∃ q9 : StV, q9 = (z.1, z.2.1, z.2.2.1, z.2.2.2.1, z.2.2.2.2.1, z.2.2.2.2.2.1 - 1, z.2.2.2.2.2.2.1, delA z.2.2.2.2.2.2.2.1 (n % z.2.2.2.2.2.1) z.2.2.2.2.2.1, z.2.2.2.2.2.2.2.2) := ⟨_, rfl⟩
            rw [← hz1] at hP hD
            have hP : va_P D vwCl (fmB (LB cI cC cJ cZ cQ x0 a0 a1 a2 a3 a4 a5 a6 v0 v1 t0 t1 h0 u0 u1 pa rg z1 ((nx + 1) % 6) (min (cnt + 1) 6) (updS S nx z) wd hv hk hc) [0, 1, 2, 3, 4, 5, 6, 7]) H := hP
            have hD : va_D A (fmB (LB cI cC cJ cZ cQ x0 a0 a1 a2 a3 a4 a5 a6 v0 v1 t0 t1 h0 u0 u1 pa rg z1 ((nx + 1) % 6) (min (cnt + 1) 6) (updS S nx z) wd hv hk hc) [0, 1, 2, 3, 4, 5, 6, 7]) := hD
            have hz9 : zI z1 := by subst hz1; exact zI_w hI.1 (by omega) (del_rg hff)
            obtain ⟨hq1, hq2, hq3⟩ := zI_b hz9
            have hff1 := zI_f hz9
            have hhf1 := zI_hf hz9
            have e6 : z1.2.2.2.2.2.1 = z.2.2.2.2.2.1 - 1 := by subst hz1; rfl
            refine lv_iload hx hb dL_weights_202 (lv_at hl 2 rfl) ?_
            refine lv_icmp_ne (tgt := 245) hx hb dL_weights_204 (by decide) (fun c_204 => ?_) (fun c_204 => ?_)
            · exact absurd rfl c_204
            · refine lv_aload_n hx hb dL_weights_207 rfl (lv_at hl 6 rfl) ?_
              refine lq_v (B0 := (LB cI cC cJ cZ cQ x0 a0 a1 a2 a3 a4 a5 a6 v0 v1 t0 t1 h0 u0 u1 pa rg z1 ((nx + 1) % 6) (min (cnt + 1) 6) (updS S nx z) wd hv hk hc)) (B1 := (LB cI cC cJ cZ cQ x0 a0 a1 a2 a3 a4 a5 a6 v0 v1 t0 t1 h0 u0 u1 pa rg z1 ((nx + 1) % 6) (min (cnt + 1) 6) (updS S nx z) wd hv hk hc)) (U := [0, 1, 2, 3, 4, 5, 6, 7]) (isC := [0, 1]) (isR := [2, 3, 4, 5, 6, 7]) (As := []) (rest := []) ⟨hx, hb, hml, hown, hts⟩ (kX7_weights l D H.size cI cC cJ cZ cQ x0 v0 t0 h0 u0 a0 a1 a2 a3 a4 a5 a6 z1) (cwV 0 hts gL_weights_X7_weights rfl rfl rfl (by decide +kernel) ⟨Nat.le_of_ble_eq_true rfl, Nat.le_of_ble_eq_true rfl⟩) hP hD hK hS hA hN (by decide) rfl rfl rfl 0 7 rfl rfl rfl rfl hl.1 rfl (Nat.le_of_ble_eq_true rfl) dL_weights_208 ⟨Nat.le_of_ble_eq_true rfl, Nat.le_of_ble_eq_true rfl⟩ (fun H locs hP hD hS => ?_)
              refine lv_iload_n hx hb dL_weights_211 rfl (lv_at hl 5 rfl) ?_
              refine lv_iconst (v := 1) hx hb dL_weights_212 (by decide) ?_
              refine lv_isub hx hb dL_weights_213 ?_
              refine k_topi (y := nI (z.2.2.2.2.2.1 - 1)) (pk_sub (a := z.2.2.2.2.2.1) (b := 1) (by omega)) ?_
              refine lv_icmp_ne (tgt := 245) hx hb dL_weights_214 (by decide) (fun c_214 => ?_) (fun c_214 => ?_)
              · have c_214 : ¬ z1.2.2.2.2.2.1 = (z.2.2.2.2.2.1 - 1) := fun h => c_214 ((nI_eq (a := z1.2.2.2.2.2.1) (b := (z.2.2.2.2.2.1 - 1)) (by omega) (by omega)).mpr h)
                exact absurd e6 c_214
              · have c_214 : z1.2.2.2.2.2.1 = (z.2.2.2.2.2.1 - 1) := (nI_eq (a := z1.2.2.2.2.2.1) (b := (z.2.2.2.2.2.1 - 1)) (by omega) (by omega)).mp c_214
                refine lv_aload_n hx hb dL_weights_217 rfl (lv_at hl 6 rfl) ?_
                refine lv_iconst (v := 0) hx hb dL_weights_218 (by decide) ?_
                refine lv_iload hx hb dL_weights_219 (lv_at hl 3 rfl) ?_
                refine lq_sb (B0 := (LB cI cC cJ cZ cQ x0 a0 a1 a2 a3 a4 a5 a6 v0 v1 t0 t1 h0 u0 u1 pa rg z1 ((nx + 1) % 6) (min (cnt + 1) 6) (updS S nx z) wd hv hk hc)) (B1 := (LB cI cC cJ cZ cQ x0 a0 a1 a2 a3 a4 a5 a6 v0 v1 t0 t1 h0 u0 u1 pa rg z1 ((nx + 1) % 6) (min (cnt + 1) 6) (updS S nx z) wd hv hk hc)) (U := [0, 1, 2, 3, 4, 5, 6, 7]) (isC := [0, 1]) (isR := [2, 3, 4, 5, 6, 7]) (As := [.ref x0, .int 0, .int (nI (n % z.2.2.2.2.2.1))]) (rest := []) ⟨hx, hb, hml, hown, hts⟩ (kL_weight_bad l hst D H.size cI cC cJ cZ cQ x0 v0 t0 h0 u0 a0 a1 a2 a3 a4 a5 a6 z1 (nI (n % z.2.2.2.2.2.1)) (Or.inr (n_le z1.2.2.2.2.2.1 (n % z.2.2.2.2.2.1) (by omega) (by omega)))) (vx_cwSW 3 hts gL_weights_L_ask rfl rfl rfl (by decide +kernel) ⟨Nat.le_of_ble_eq_true rfl, Nat.le_of_ble_eq_true rfl⟩) hP hD hK hS hA hN hE hO (by decide) rfl rfl rfl rfl hl.1 rfl (Nat.le_of_ble_eq_true rfl) dL_weights_221 ⟨Nat.le_of_ble_eq_true rfl, Nat.le_of_ble_eq_true rfl⟩ (fun H locs hP hD hS => ?_)
                refine W.widen (k := 2) (n := 12) (Nat.le_refl _) (Nat.le_refl _) ?_
                refine lv_iload hx hb dL_weights_224 (lv_at hl 0 rfl) ?_
                refine lv_icmp_ne (tgt := 245) hx hb dL_weights_226 (by decide) (fun h => absurd h (by decide)) (fun _ => ?_)
                refine lv_aload_n hx hb dL_weights_229 rfl (lv_at hl 6 rfl) ?_
                refine lq_v (B0 := (LB cI cC cJ cZ cQ x0 a0 a1 a2 a3 a4 a5 a6 v0 v1 t0 t1 h0 u0 u1 pa rg z1 ((nx + 1) % 6) (min (cnt + 1) 6) (updS S nx z) wd hv hk hc)) (B1 := (LB cI cC cJ cZ cQ x0 a0 a1 a2 a3 a4 a5 a6 v0 v1 t0 t1 h0 u0 u1 pa rg z1 ((nx + 1) % 6) (min (cnt + 1) 6) (updS S nx z) wd hv hk hc)) (U := [0, 1, 2, 3, 4, 5, 6, 7]) (isC := [0, 1]) (isR := [2, 3, 4, 5, 6, 7]) (As := []) (rest := []) ⟨hx, hb, hml, hown, hts⟩ (kX7_total l D H.size cI cC cJ cZ cQ x0 v0 t0 h0 u0 a0 a1 a2 a3 a4 a5 a6 z1 hq2) (cwV 0 hts gL_weights_X7_total rfl rfl rfl (by decide +kernel) ⟨Nat.le_of_ble_eq_true rfl, Nat.le_of_ble_eq_true rfl⟩) hP hD hK hS hA hN (by decide) rfl rfl rfl 0 7 rfl rfl rfl rfl hl.1 rfl (Nat.le_of_ble_eq_true rfl) dL_weights_230 ⟨Nat.le_of_ble_eq_true rfl, Nat.le_of_ble_eq_true rfl⟩ (fun H locs hP hD hS => ?_)
                refine k_topi (y := sumW z.2.2.2.2.2.2.2.1 z.2.2.2.2.2.1 - z.2.2.2.2.2.2.2.1 (n % z.2.2.2.2.2.1)) (by subst hz1; exact (sumW_delA (f := z.2.2.2.2.2.2.2.1) (i := n % z.2.2.2.2.2.1) (N := z.2.2.2.2.2.1) (z.2.2.2.2.2.1 - 1) (by omega) (by omega)).trans (by rw [show z.2.2.2.2.2.1 - 1 + 1 = z.2.2.2.2.2.1 from by omega])) ?_
                refine lv_iload hx hb dL_weights_233 (lv_at hl 4 rfl) ?_
                refine lv_iload hx hb dL_weights_235 (lv_at hl 2 rfl) ?_
                refine lv_isub hx hb dL_weights_237 ?_
                refine lv_icmp_ne (tgt := 245) hx hb dL_weights_238 (by decide) (fun c_238 => ?_) (fun c_238 => ?_)
                · exact absurd rfl c_238
                · refine lv_iconst (v := 1) hx hb dL_weights_241 (by decide) ?_
                  refine lv_goto (tgt := 246) hx hb dL_weights_242 (by decide) ?_
                  exact kr_oz (u := (z1, (nx + 1) % 6, min (cnt + 1) 6, updS S nx z, wd, hv, hk, hc)) (v := 1) hx hb hr hlocks rfl hP hD hS ⟨rfl, oI_push hI hz9, rfl, rfl, rfl⟩ dL_weights_246
    · have c_87 : how = 1 := (nI_eq (a := how) (b := 1) (by omega) (by omega)).mp c_87
      omega
  · have c_35 : how = 0 := (nI_eq (a := how) (b := 0) (by omega) (by omega)).mp c_35
    omega

abbrev rmmL_weights3 : Room := { frames := 9, cells := 2, slots := 12, locals := 170 }
set_option maxHeartbeats 4000000 in
set_option maxRecDepth 100000 in
theorem mL_weights3 (l : Launch) (hst : l.stackTraces = false) (D : va_G) (sz : Nat) (cI : ClassId) (cC : ClassId) (cJ : ClassId) (cZ : ClassId) (cQ : ClassId) (x0 : Nat) (a0 : Nat) (a1 : Nat) (a2 : Nat) (a3 : Nat) (a4 : Nat) (a5 : Nat) (a6 : Nat) (v0 : Nat) (v1 : Nat) (t0 : Nat) (t1 : Nat) (h0 : Nat) (u0 : Nat) (u1 : Nat) (pa : Nat → Nat) (rg : Nat → Option Nat) (z : StV) (nx : Nat) (cnt : Nat) (S : Nat → StV) (wd : Nat → Int64) (hv : Int32) (hk : Int32) (hc : Int32) (how : Nat) (n : Nat) (hI : oI z nx cnt S) (hrg : rgOK rg pa) (hn : n < 2147483648) (hh : how = 1 ∧ 12 ≤ z.2.2.2.2.2.1) : Met l yL_weights wsL_weights rmmL_weights3 (va_Pc [.ref x0, .int (nI how), .int (nI n)] (oPre D sz (fmB (LB cI cC cJ cZ cQ x0 a0 a1 a2 a3 a4 a5 a6 v0 v1 t0 t1 h0 u0 u1 pa rg z nx cnt S wd hv hk hc) [0, 1, 2, 3, 4, 5, 6, 7]) (kT cI cC cJ cZ cQ))) (oQi D (fun (r9 : Int32) (u9 : OS) => 1 = r9 ∧ oI u9.1 u9.2.1 u9.2.2.1 u9.2.2.2.1 ∧ u9.2.1 = (nx + 1) % 6 ∧ u9.2.2.1 = min (cnt + 1) 6 ∧ u9.2.2.2.1 = updS S nx z) (fun (u9 : OS) => fmB (LB cI cC cJ cZ cQ x0 a0 a1 a2 a3 a4 a5 a6 v0 v1 t0 t1 h0 u0 u1 pa rg u9.1 u9.2.1 u9.2.2.1 u9.2.2.2.1 u9.2.2.2.2.1 u9.2.2.2.2.2.1 u9.2.2.2.2.2.2.1 u9.2.2.2.2.2.2.2) [0, 1, 2, 3, 4, 5, 6, 7]) (va_A (fmB (LB cI cC cJ cZ cQ x0 a0 a1 a2 a3 a4 a5 a6 v0 v1 t0 t1 h0 u0 u1 pa rg z nx cnt S wd hv hk hc) [0, 1, 2, 3, 4, 5, 6, 7]) sz)) 2 12 (va_A (fmB (LB cI cC cJ cZ cQ x0 a0 a1 a2 a3 a4 a5 a6 v0 v1 t0 t1 h0 u0 u1 pa rg z nx cnt S wd hv hk hc) [0, 1, 2, 3, 4, 5, 6, 7]) sz) := by
  refine k_metO (Qf := oQi D (fun (r9 : Int32) (u9 : OS) => 1 = r9 ∧ oI u9.1 u9.2.1 u9.2.2.1 u9.2.2.2.1 ∧ u9.2.1 = (nx + 1) % 6 ∧ u9.2.2.1 = min (cnt + 1) 6 ∧ u9.2.2.2.1 = updS S nx z) (fun (u9 : OS) => fmB (LB cI cC cJ cZ cQ x0 a0 a1 a2 a3 a4 a5 a6 v0 v1 t0 t1 h0 u0 u1 pa rg u9.1 u9.2.1 u9.2.2.1 u9.2.2.2.1 u9.2.2.2.2.1 u9.2.2.2.2.2.1 u9.2.2.2.2.2.2.1 u9.2.2.2.2.2.2.2) [0, 1, 2, 3, 4, 5, 6, 7])) (cc := cL_weights) (maxL := 13) (ret := (some .boolean)) (own := RL) (by decide) rfl (Nat.le_of_ble_eq_true rfl) rfl ?_
  intro p e s m args below meth c ls A H locs hx hb hr hts hown hlocks hml hsz hP hK hD hA hS hN hE hO hl
  have hl : lv_has ls 13 [(0, .ref x0), (1, .int (nI how)), (2, .int (nI n))] := hl
  obtain ⟨hw1, hwz, hlz⟩ := zI_b hI.1
  obtain ⟨hnx, hcnt, -⟩ := hI.2
  have hff := zI_f hI.1
  have hhf := zI_hf hI.1
  have hkw : n % z.2.2.2.2.2.1 < z.2.2.2.2.2.1 := Nat.mod_lt _ (by omega)
  refine lv_aload_n hx hb dL_weights_0 rfl (lv_at hl 0 rfl) ?_
  refine lq_v (B0 := (LB cI cC cJ cZ cQ x0 a0 a1 a2 a3 a4 a5 a6 v0 v1 t0 t1 h0 u0 u1 pa rg z nx cnt S wd hv hk hc)) (B1 := (LB cI cC cJ cZ cQ x0 a0 a1 a2 a3 a4 a5 a6 v0 v1 t0 t1 h0 u0 u1 pa rg z nx cnt S wd hv hk hc)) (U := [0, 1, 2, 3, 4, 5, 6, 7]) (isC := [0, 1]) (isR := [2, 3, 4, 5, 6, 7]) (As := []) (rest := []) ⟨hx, hb, hml, hown, hts⟩ (kX7_weights l D H.size cI cC cJ cZ cQ x0 v0 t0 h0 u0 a0 a1 a2 a3 a4 a5 a6 z) (cwV 0 hts gL_weights_X7_weights rfl rfl rfl (by decide +kernel) ⟨Nat.le_of_ble_eq_true rfl, Nat.le_of_ble_eq_true rfl⟩) hP hD hK hS hA hN (by decide) rfl rfl rfl 0 7 rfl rfl rfl rfl hl.1 rfl (Nat.le_of_ble_eq_true rfl) dL_weights_1 ⟨Nat.le_of_ble_eq_true rfl, Nat.le_of_ble_eq_true rfl⟩ (fun H locs hP hD hS => ?_)
  refine lv_istore_n (lv' := [(3, .int (nI z.2.2.2.2.2.1)), (0, .ref x0), (1, .int (nI how)), (2, .int (nI n))]) hx hb dL_weights_4 rfl hl (by decide) rfl (fun ls hl => ?_)
  refine lv_aload_n hx hb dL_weights_5 rfl (lv_at hl 1 rfl) ?_
  refine lq_v (B0 := (LB cI cC cJ cZ cQ x0 a0 a1 a2 a3 a4 a5 a6 v0 v1 t0 t1 h0 u0 u1 pa rg z nx cnt S wd hv hk hc)) (B1 := (LB cI cC cJ cZ cQ x0 a0 a1 a2 a3 a4 a5 a6 v0 v1 t0 t1 h0 u0 u1 pa rg z nx cnt S wd hv hk hc)) (U := [0, 1, 2, 3, 4, 5, 6, 7]) (isC := [0, 1]) (isR := [2, 3, 4, 5, 6, 7]) (As := []) (rest := []) ⟨hx, hb, hml, hown, hts⟩ (kX7_total l D H.size cI cC cJ cZ cQ x0 v0 t0 h0 u0 a0 a1 a2 a3 a4 a5 a6 z (by first | assumption | omega)) (cwV 0 hts gL_weights_X7_total rfl rfl rfl (by decide +kernel) ⟨Nat.le_of_ble_eq_true rfl, Nat.le_of_ble_eq_true rfl⟩) hP hD hK hS hA hN (by decide) rfl rfl rfl 0 7 rfl rfl rfl rfl hl.1 rfl (Nat.le_of_ble_eq_true rfl) dL_weights_6 ⟨Nat.le_of_ble_eq_true rfl, Nat.le_of_ble_eq_true rfl⟩ (fun H locs hP hD hS => ?_)
  refine lv_istore (lv' := [(4, .int (sumW z.2.2.2.2.2.2.2.1 z.2.2.2.2.2.1)), (3, .int (nI z.2.2.2.2.2.1)), (0, .ref x0), (1, .int (nI how)), (2, .int (nI n))]) hx hb dL_weights_9 hl (by decide) rfl (fun ls hl => ?_)
  refine lv_iload_n hx hb dL_weights_11 rfl (lv_at hl 4 rfl) ?_
  refine lv_iload_n hx hb dL_weights_12 rfl (lv_at hl 1 rfl) ?_
  refine lv_irem hx hb dL_weights_13 (fun h9 => by have h8 := (nI_eq (a := z.2.2.2.2.2.1) (b := 0) (by omega) (by omega)).mp h9; omega) ?_
  refine k_topi (y := nI (n % z.2.2.2.2.2.1)) (pk_rem (a := n) (d := z.2.2.2.2.2.1) (by omega) (by omega) (by omega)) ?_
  refine lv_istore (lv' := [(5, .int (nI (n % z.2.2.2.2.2.1))), (4, .int (sumW z.2.2.2.2.2.2.2.1 z.2.2.2.2.2.1)), (3, .int (nI z.2.2.2.2.2.1)), (0, .ref x0), (1, .int (nI how)), (2, .int (nI n))]) hx hb dL_weights_14 hl (by decide) rfl (fun ls hl => ?_)
  refine lv_aload_n hx hb dL_weights_16 rfl (lv_at hl 3 rfl) ?_
  refine lv_iconst (v := 0) hx hb dL_weights_17 (by decide) ?_
  refine lv_iload hx hb dL_weights_18 (lv_at hl 0 rfl) ?_
  refine lq_s (B0 := (LB cI cC cJ cZ cQ x0 a0 a1 a2 a3 a4 a5 a6 v0 v1 t0 t1 h0 u0 u1 pa rg z nx cnt S wd hv hk hc)) (B1 := (LB cI cC cJ cZ cQ x0 a0 a1 a2 a3 a4 a5 a6 v0 v1 t0 t1 h0 u0 u1 pa rg z nx cnt S wd hv hk hc)) (U := [0, 1, 2, 3, 4, 5, 6, 7]) (isC := [0, 1]) (isR := [2, 3, 4, 5, 6, 7]) (As := [.ref x0, .int 0, .int (nI (n % z.2.2.2.2.2.1))]) (rest := []) ⟨hx, hb, hml, hown, hts⟩ (kL_weight_ok l D H.size cI cC cJ cZ cQ x0 v0 t0 h0 u0 a0 a1 a2 a3 a4 a5 a6 z (n % z.2.2.2.2.2.1) (by first | assumption | omega) hkw) (vx_cwSW 3 hts gL_weights_L_ask rfl rfl rfl (by decide +kernel) ⟨Nat.le_of_ble_eq_true rfl, Nat.le_of_ble_eq_true rfl⟩) hP hD hK hS hA hN (by decide) rfl rfl rfl rfl hl.1 rfl (Nat.le_of_ble_eq_true rfl) dL_weights_20 ⟨Nat.le_of_ble_eq_true rfl, Nat.le_of_ble_eq_true rfl⟩ (fun H locs hP hD hS => ?_)
  refine lv_istore (lv' := [(6, .int (z.2.2.2.2.2.2.2.1 (n % z.2.2.2.2.2.1))), (5, .int (nI (n % z.2.2.2.2.2.1))), (4, .int (sumW z.2.2.2.2.2.2.2.1 z.2.2.2.2.2.1)), (3, .int (nI z.2.2.2.2.2.1)), (0, .ref x0), (1, .int (nI how)), (2, .int (nI n))]) hx hb dL_weights_23 hl (by decide) rfl (fun ls hl => ?_)
  refine lv_iload_n hx hb dL_weights_25 rfl (lv_at hl 6 rfl) ?_
  refine lv_bipush (v := 12) hx hb dL_weights_26 (by decide) ?_
  refine lv_idiv hx hb dL_weights_28 (by decide) ?_
  refine k_topi (y := nI (n / 12)) (pk_div (a := n) (d := 12) (by omega) (by omega) (by omega)) ?_
  refine ks_i0 (As := [.int (nI (n / 12))]) (rest := []) ⟨hx, hb, hml, hown, hts⟩ (mL_size l (n / 12) (by first | assumption | omega)) (va_cwS 1 hts gL_weights_L_size rfl rfl rfl (by decide +kernel) ⟨Nat.le_of_ble_eq_true rfl, Nat.le_of_ble_eq_true rfl⟩) hP hS rfl hl.1 rfl (Nat.le_of_ble_eq_true rfl) dL_weights_29 ⟨Nat.zero_le _, Nat.zero_le _⟩ (fun H locs hP hS => ?_)
  refine lv_istore (lv' := [(7, .int (nI (sizeN (n / 12)))), (6, .int (z.2.2.2.2.2.2.2.1 (n % z.2.2.2.2.2.1))), (5, .int (nI (n % z.2.2.2.2.2.1))), (4, .int (sumW z.2.2.2.2.2.2.2.1 z.2.2.2.2.2.1)), (3, .int (nI z.2.2.2.2.2.1)), (0, .ref x0), (1, .int (nI how)), (2, .int (nI n))]) hx hb dL_weights_32 hl (by decide) rfl (fun ls hl => ?_)
  refine lv_iload_n hx hb dL_weights_34 rfl (lv_at hl 6 rfl) ?_
  refine lv_if_ne (tgt := 85) hx hb dL_weights_35 (by decide) (fun c_35 => ?_) (fun c_35 => ?_)
  · have c_35 : ¬ how = 0 := fun h => c_35 ((nI_eq (a := how) (b := 0) (by omega) (by omega)).mpr h)
    refine lv_iload_n hx hb dL_weights_85 rfl (lv_at hl 6 rfl) ?_
    refine lv_iconst (v := 1) hx hb dL_weights_86 (by decide) ?_
    refine lv_icmp_ne (tgt := 172) hx hb dL_weights_87 (by decide) (fun c_87 => ?_) (fun c_87 => ?_)
    · have c_87 : ¬ how = 1 := fun h => c_87 ((nI_eq (a := how) (b := 1) (by omega) (by omega)).mpr h)
      omega
    · have c_87 : how = 1 := (nI_eq (a := how) (b := 1) (by omega) (by omega)).mp c_87
      refine lv_iload_n hx hb dL_weights_90 rfl (lv_at hl 4 rfl) ?_
      refine lv_bipush (v := 12) hx hb dL_weights_91 (by decide) ?_
      refine lv_icmp_ge (tgt := 172) hx hb dL_weights_93 (by decide) (fun c_93 => ?_) (fun c_93 => ?_)
      · have c_93 : 12 ≤ z.2.2.2.2.2.1 := (nI_leI (a := 12) (b := z.2.2.2.2.2.1) (by omega) (by omega)).mp c_93
        refine lv_iload_n hx hb dL_weights_172 rfl (lv_at hl 6 rfl) ?_
        refine lv_iconst (v := 2) hx hb dL_weights_173 (by decide) ?_
        refine lv_icmp_ne (tgt := 247) hx hb dL_weights_174 (by decide) (fun c_174 => ?_) (fun c_174 => ?_)
        · have c_174 : ¬ how = 2 := fun h => c_174 ((nI_eq (a := how) (b := 2) (by omega) (by omega)).mpr h)
          refine lv_aload_n hx hb dL_weights_247 rfl (lv_at hl 5 rfl) ?_
          refine lq_v (B0 := (LB cI cC cJ cZ cQ x0 a0 a1 a2 a3 a4 a5 a6 v0 v1 t0 t1 h0 u0 u1 pa rg z nx cnt S wd hv hk hc)) (B1 := (LB cI cC cJ cZ cQ x0 a0 a1 a2 a3 a4 a5 a6 v0 v1 t0 t1 h0 u0 u1 pa rg z nx cnt S (fillG z.2.2.2.2.2.2.2.1 z.2.2.2.2.2.1) hv hk hc)) (U := [0, 1, 2, 3, 4, 5, 6, 7]) (isC := [0, 1, 7]) (isR := [2, 3, 4, 5, 6]) (As := []) (rest := []) ⟨hx, hb, hml, hown, hts⟩ (kX7_sums l D H.size cI cC cJ cZ cQ x0 v0 t0 h0 u0 a0 a1 a2 a3 a4 a5 a6 z u1 wd (by first | assumption | omega) (by first | assumption | omega)) (cwV 0 hts gL_weights_X7_sums rfl rfl rfl (by decide +kernel) ⟨Nat.le_of_ble_eq_true rfl, Nat.le_of_ble_eq_true rfl⟩) hP hD hK hS hA hN (by decide) rfl rfl rfl 0 7 rfl rfl rfl rfl hl.1 rfl (Nat.le_of_ble_eq_true rfl) dL_weights_248 ⟨Nat.le_of_ble_eq_true rfl, Nat.le_of_ble_eq_true rfl⟩ (fun H locs hP hD hS => ?_)
          have hP : va_P D vwCl (fmB (LB cI cC cJ cZ cQ x0 a0 a1 a2 a3 a4 a5 a6 v0 v1 t0 t1 h0 u0 u1 pa rg z nx cnt S (fillG z.2.2.2.2.2.2.2.1 z.2.2.2.2.2.1) hv hk hc) [0, 1, 2, 3, 4, 5, 6, 7]) H := hP
          have hD : va_D A (fmB (LB cI cC cJ cZ cQ x0 a0 a1 a2 a3 a4 a5 a6 v0 v1 t0 t1 h0 u0 u1 pa rg z nx cnt S (fillG z.2.2.2.2.2.2.2.1 z.2.2.2.2.2.1) hv hk hc) [0, 1, 2, 3, 4, 5, 6, 7]) := hD
          obtain ⟨wq1, hwq1⟩ : ∃ q9 : Nat → Int64, q9 = (fillG z.2.2.2.2.2.2.2.1 z.2.2.2.2.2.1) := ⟨_, rfl⟩
          rw [← hwq1] at hP hD
          have hP : va_P D vwCl (fmB (LB cI cC cJ cZ cQ x0 a0 a1 a2 a3 a4 a5 a6 v0 v1 t0 t1 h0 u0 u1 pa rg z nx cnt S wq1 hv hk hc) [0, 1, 2, 3, 4, 5, 6, 7]) H := hP
          have hD : va_D A (fmB (LB cI cC cJ cZ cQ x0 a0 a1 a2 a3 a4 a5 a6 v0 v1 t0 t1 h0 u0 u1 pa rg z nx cnt S wq1 hv hk hc) [0, 1, 2, 3, 4, 5, 6, 7]) := hD
          refine lv_istore (lv' := [(8, .int (cntL (fillG z.2.2.2.2.2.2.2.1 z.2.2.2.2.2.1) 64)), (7, .int (nI (sizeN (n / 12)))), (6, .int (z.2.2.2.2.2.2.2.1 (n % z.2.2.2.2.2.1))), (5, .int (nI (n % z.2.2.2.2.2.1))), (4, .int (sumW z.2.2.2.2.2.2.2.1 z.2.2.2.2.2.1)), (3, .int (nI z.2.2.2.2.2.1)), (0, .ref x0), (1, .int (nI how)), (2, .int (nI n))]) hx hb dL_weights_251 hl (by decide) rfl (fun ls hl => ?_)
          refine lv_aload_n hx hb dL_weights_253 rfl (lv_at hl 6 rfl) ?_
          refine lq_v (B0 := (LB cI cC cJ cZ cQ x0 a0 a1 a2 a3 a4 a5 a6 v0 v1 t0 t1 h0 u0 u1 pa rg z nx cnt S wq1 hv hk hc)) (B1 := (LB cI cC cJ cZ cQ x0 a0 a1 a2 a3 a4 a5 a6 v0 v1 t0 t1 h0 u0 u1 pa rg z nx cnt S (fillG z.2.2.2.2.2.2.2.1 z.2.2.2.2.2.1) hv hk hc)) (U := [0, 1, 2, 3, 4, 5, 6, 7]) (isC := [0, 1, 7]) (isR := [2, 3, 4, 5, 6]) (As := []) (rest := []) ⟨hx, hb, hml, hown, hts⟩ (kX7_leastMissing l D H.size cI cC cJ cZ cQ x0 v0 t0 h0 u0 a0 a1 a2 a3 a4 a5 a6 z u1 wq1 (by first | assumption | omega) (by first | assumption | omega)) (cwV 0 hts gL_weights_X7_leastMissing rfl rfl rfl (by decide +kernel) ⟨Nat.le_of_ble_eq_true rfl, Nat.le_of_ble_eq_true rfl⟩) hP hD hK hS hA hN (by decide) rfl rfl rfl 0 7 rfl rfl rfl rfl hl.1 rfl (Nat.le_of_ble_eq_true rfl) dL_weights_254 ⟨Nat.le_of_ble_eq_true rfl, Nat.le_of_ble_eq_true rfl⟩ (fun H locs hP hD hS => ?_)
          have hP : va_P D vwCl (fmB (LB cI cC cJ cZ cQ x0 a0 a1 a2 a3 a4 a5 a6 v0 v1 t0 t1 h0 u0 u1 pa rg z nx cnt S (fillG z.2.2.2.2.2.2.2.1 z.2.2.2.2.2.1) hv hk hc) [0, 1, 2, 3, 4, 5, 6, 7]) H := hP
          have hD : va_D A (fmB (LB cI cC cJ cZ cQ x0 a0 a1 a2 a3 a4 a5 a6 v0 v1 t0 t1 h0 u0 u1 pa rg z nx cnt S (fillG z.2.2.2.2.2.2.2.1 z.2.2.2.2.2.1) hv hk hc) [0, 1, 2, 3, 4, 5, 6, 7]) := hD
          obtain ⟨wq2, hwq2⟩ : ∃ q9 : Nat → Int64, q9 = (fillG z.2.2.2.2.2.2.2.1 z.2.2.2.2.2.1) := ⟨_, rfl⟩
          rw [← hwq2] at hP hD
          have hP : va_P D vwCl (fmB (LB cI cC cJ cZ cQ x0 a0 a1 a2 a3 a4 a5 a6 v0 v1 t0 t1 h0 u0 u1 pa rg z nx cnt S wq2 hv hk hc) [0, 1, 2, 3, 4, 5, 6, 7]) H := hP
          have hD : va_D A (fmB (LB cI cC cJ cZ cQ x0 a0 a1 a2 a3 a4 a5 a6 v0 v1 t0 t1 h0 u0 u1 pa rg z nx cnt S wq2 hv hk hc) [0, 1, 2, 3, 4, 5, 6, 7]) := hD
          refine lv_istore (lv' := [(9, .int (nI (lmGo (fillG z.2.2.2.2.2.2.2.1 z.2.2.2.2.2.1) 4095 1))), (8, .int (cntL (fillG z.2.2.2.2.2.2.2.1 z.2.2.2.2.2.1) 64)), (7, .int (nI (sizeN (n / 12)))), (6, .int (z.2.2.2.2.2.2.2.1 (n % z.2.2.2.2.2.1))), (5, .int (nI (n % z.2.2.2.2.2.1))), (4, .int (sumW z.2.2.2.2.2.2.2.1 z.2.2.2.2.2.1)), (3, .int (nI z.2.2.2.2.2.1)), (0, .ref x0), (1, .int (nI how)), (2, .int (nI n))]) hx hb dL_weights_257 hl (by decide) rfl (fun ls hl => ?_)
          refine lv_aload_n hx hb dL_weights_259 rfl (lv_at hl 7 rfl) ?_
          refine lq_v (B0 := (LB cI cC cJ cZ cQ x0 a0 a1 a2 a3 a4 a5 a6 v0 v1 t0 t1 h0 u0 u1 pa rg z nx cnt S wq2 hv hk hc)) (B1 := (LB cI cC cJ cZ cQ x0 a0 a1 a2 a3 a4 a5 a6 v0 v1 t0 t1 h0 u0 u1 pa rg (z.1, z.2.1, z.2.2.1, z.2.2.2.1, z.2.2.2.2.1, z.2.2.2.2.2.1, z.2.2.2.2.2.2.1, srtG z.2.2.2.2.2.2.2.1 (z.2.2.2.2.2.1 - 1), z.2.2.2.2.2.2.2.2) ((nx + 1) % 6) (min (cnt + 1) 6) (updS S nx z) wq2 hv hk hc)) (U := [0, 1, 2, 3, 4, 5, 6, 7]) (isC := [0, 1, 2, 3, 4]) (isR := [5, 6, 7]) (As := []) (rest := []) ⟨hx, hb, hml, hown, hts⟩ (kX7_sortWeights l D H.size cI cC cJ cZ cQ x0 v0 t0 h0 u0 a0 a1 a2 a3 a4 a5 a6 z v1 nx cnt pa S rg hnx hcnt hrg hwz hw1) (cwV 0 hts gL_weights_X7_sortWeights rfl rfl rfl (by decide +kernel) ⟨Nat.le_of_ble_eq_true rfl, Nat.le_of_ble_eq_true rfl⟩) hP hD hK hS hA hN (by decide) rfl rfl rfl 0 7 rfl rfl rfl rfl hl.1 rfl (Nat.le_of_ble_eq_true rfl) dL_weights_260 ⟨Nat.le_of_ble_eq_true rfl, Nat.le_of_ble_eq_true rfl⟩ (fun H locs hP hD hS => ?_)
          have hP : va_P D vwCl (fmB (LB cI cC cJ cZ cQ x0 a0 a1 a2 a3 a4 a5 a6 v0 v1 t0 t1 h0 u0 u1 pa rg (z.1, z.2.1, z.2.2.1, z.2.2.2.1, z.2.2.2.2.1, z.2.2.2.2.2.1, z.2.2.2.2.2.2.1, srtG z.2.2.2.2.2.2.2.1 (z.2.2.2.2.2.1 - 1), z.2.2.2.2.2.2.2.2) ((nx + 1) % 6) (min (cnt + 1) 6) (updS S nx z) wq2 hv hk hc) [0, 1, 2, 3, 4, 5, 6, 7]) H := hP
          have hD : va_D A (fmB (LB cI cC cJ cZ cQ x0 a0 a1 a2 a3 a4 a5 a6 v0 v1 t0 t1 h0 u0 u1 pa rg (z.1, z.2.1, z.2.2.1, z.2.2.2.1, z.2.2.2.2.1, z.2.2.2.2.2.1, z.2.2.2.2.2.2.1, srtG z.2.2.2.2.2.2.2.1 (z.2.2.2.2.2.1 - 1), z.2.2.2.2.2.2.2.2) ((nx + 1) % 6) (min (cnt + 1) 6) (updS S nx z) wq2 hv hk hc) [0, 1, 2, 3, 4, 5, 6, 7]) := hD
          obtain ⟨z1, hz1⟩ : ∃ q9 : StV, q9 = (z.1, z.2.1, z.2.2.1, z.2.2.2.1, z.2.2.2.2.1, z.2.2.2.2.2.1, z.2.2.2.2.2.2.1, srtG z.2.2.2.2.2.2.2.1 (z.2.2.2.2.2.1 - 1), z.2.2.2.2.2.2.2.2) := ⟨_, rfl⟩
          rw [← hz1] at hP hD
          have hP : va_P D vwCl (fmB (LB cI cC cJ cZ cQ x0 a0 a1 a2 a3 a4 a5 a6 v0 v1 t0 t1 h0 u0 u1 pa rg z1 ((nx + 1) % 6) (min (cnt + 1) 6) (updS S nx z) wq2 hv hk hc) [0, 1, 2, 3, 4, 5, 6, 7]) H := hP
          have hD : va_D A (fmB (LB cI cC cJ cZ cQ x0 a0 a1 a2 a3 a4 a5 a6 v0 v1 t0 t1 h0 u0 u1 pa rg z1 ((nx + 1) % 6) (min (cnt + 1) 6) (updS S nx z) wq2 hv hk hc) [0, 1, 2, 3, 4, 5, 6, 7]) := hD
          have hz9 : zI z1 := by subst hz1; exact zI_w hI.1 ⟨hw1, hwz⟩ (srt_rg hw1 hff)
          obtain ⟨hq1, hq2, hq3⟩ := zI_b hz9
          have hff1 := zI_f hz9
          have hhf1 := zI_hf hz9
          have e6 : z1.2.2.2.2.2.1 = z.2.2.2.2.2.1 := by subst hz1; rfl
          have e8 : z1.2.2.2.2.2.2.2.1 = srtG z.2.2.2.2.2.2.2.1 (z.2.2.2.2.2.1 - 1) := by subst hz1; rfl
          have hmp := misp_le z.2.2.2.2.2.2.2.1 z.2.2.2.2.2.1 z.2.2.2.2.2.1
          refine lv_istore (lv' := [(10, .int (nI (misp z.2.2.2.2.2.2.2.1 z.2.2.2.2.2.1 z.2.2.2.2.2.1))), (9, .int (nI (lmGo (fillG z.2.2.2.2.2.2.2.1 z.2.2.2.2.2.1) 4095 1))), (8, .int (cntL (fillG z.2.2.2.2.2.2.2.1 z.2.2.2.2.2.1) 64)), (7, .int (nI (sizeN (n / 12)))), (6, .int (z.2.2.2.2.2.2.2.1 (n % z.2.2.2.2.2.1))), (5, .int (nI (n % z.2.2.2.2.2.1))), (4, .int (sumW z.2.2.2.2.2.2.2.1 z.2.2.2.2.2.1)), (3, .int (nI z.2.2.2.2.2.1)), (0, .ref x0), (1, .int (nI how)), (2, .int (nI n))]) hx hb dL_weights_263 hl (by decide) rfl (fun ls hl => ?_)
          refine lv_iload hx hb dL_weights_265 (lv_at hl 0 rfl) ?_
          refine lv_if_lt (tgt := 313) hx hb dL_weights_267 (by decide) (fun c_267 => ?_) (fun c_267 => ?_)
          · have c_267 : (misp z.2.2.2.2.2.2.2.1 z.2.2.2.2.2.1 z.2.2.2.2.2.1) < 0 := (nI_ltI (a := (misp z.2.2.2.2.2.2.2.1 z.2.2.2.2.2.1 z.2.2.2.2.2.1)) (b := 0) (by omega) (by omega)).mp c_267
            omega
          · have c_267 : ¬ (misp z.2.2.2.2.2.2.2.1 z.2.2.2.2.2.1 z.2.2.2.2.2.1) < 0 := fun h => c_267 ((nI_ltI (a := (misp z.2.2.2.2.2.2.2.1 z.2.2.2.2.2.1 z.2.2.2.2.2.1)) (b := 0) (by omega) (by omega)).mpr h)
            refine lv_iload hx hb dL_weights_270 (lv_at hl 0 rfl) ?_
            refine lv_iload_n hx hb dL_weights_272 rfl (lv_at hl 7 rfl) ?_
            refine lv_icmp_gt (tgt := 313) hx hb dL_weights_273 (by decide) (fun c_273 => ?_) (fun c_273 => ?_)
            · have c_273 : z.2.2.2.2.2.1 < (misp z.2.2.2.2.2.2.2.1 z.2.2.2.2.2.1 z.2.2.2.2.2.1) := (nI_ltI (a := z.2.2.2.2.2.1) (b := (misp z.2.2.2.2.2.2.2.1 z.2.2.2.2.2.1 z.2.2.2.2.2.1)) (by omega) (by omega)).mp c_273
              omega
            · have c_273 : ¬ z.2.2.2.2.2.1 < (misp z.2.2.2.2.2.2.2.1 z.2.2.2.2.2.1 z.2.2.2.2.2.1) := fun h => c_273 ((nI_ltI (a := z.2.2.2.2.2.1) (b := (misp z.2.2.2.2.2.2.2.1 z.2.2.2.2.2.1 z.2.2.2.2.2.1)) (by omega) (by omega)).mpr h)
              refine lv_iload hx hb dL_weights_276 (lv_at hl 0 rfl) ?_
              refine lv_iconst (v := 1) hx hb dL_weights_278 (by decide) ?_
              refine lv_icmp_eq (tgt := 313) hx hb dL_weights_279 (by decide) (fun c_279 => ?_) (fun c_279 => ?_)
              · have c_279 : (misp z.2.2.2.2.2.2.2.1 z.2.2.2.2.2.1 z.2.2.2.2.2.1) = 1 := (nI_eq (a := (misp z.2.2.2.2.2.2.2.1 z.2.2.2.2.2.1 z.2.2.2.2.2.1)) (b := 1) (by omega) (by omega)).mp c_279
                exact absurd c_279 (misp_ne _ _)
              · have c_279 : ¬ (misp z.2.2.2.2.2.2.2.1 z.2.2.2.2.2.1 z.2.2.2.2.2.1) = 1 := fun h => c_279 ((nI_eq (a := (misp z.2.2.2.2.2.2.2.1 z.2.2.2.2.2.1 z.2.2.2.2.2.1)) (b := 1) (by omega) (by omega)).mpr h)
                refine lv_aload_n hx hb dL_weights_282 rfl (lv_at hl 8 rfl) ?_
                refine lq_v (B0 := (LB cI cC cJ cZ cQ x0 a0 a1 a2 a3 a4 a5 a6 v0 v1 t0 t1 h0 u0 u1 pa rg z1 ((nx + 1) % 6) (min (cnt + 1) 6) (updS S nx z) wq2 hv hk hc)) (B1 := (LB cI cC cJ cZ cQ x0 a0 a1 a2 a3 a4 a5 a6 v0 v1 t0 t1 h0 u0 u1 pa rg z1 ((nx + 1) % 6) (min (cnt + 1) 6) (updS S nx z) wq2 hv hk hc)) (U := [0, 1, 2, 3, 4, 5, 6, 7]) (isC := [0, 1]) (isR := [2, 3, 4, 5, 6, 7]) (As := []) (rest := []) ⟨hx, hb, hml, hown, hts⟩ (kX7_total l D H.size cI cC cJ cZ cQ x0 v0 t0 h0 u0 a0 a1 a2 a3 a4 a5 a6 z1 hq2) (cwV 0 hts gL_weights_X7_total rfl rfl rfl (by decide +kernel) ⟨Nat.le_of_ble_eq_true rfl, Nat.le_of_ble_eq_true rfl⟩) hP hD hK hS hA hN (by decide) rfl rfl rfl 0 7 rfl rfl rfl rfl hl.1 rfl (Nat.le_of_ble_eq_true rfl) dL_weights_283 ⟨Nat.le_of_ble_eq_true rfl, Nat.le_of_ble_eq_true rfl⟩ (fun H locs hP hD hS => ?_)
                refine k_topi (y := sumW z.2.2.2.2.2.2.2.1 z.2.2.2.2.2.1) (by rw [e6, e8]; exact (srt_same hw1 hff).1) ?_
                refine lv_iload hx hb dL_weights_286 (lv_at hl 6 rfl) ?_
                refine lv_icmp_ne (tgt := 313) hx hb dL_weights_288 (by decide) (fun c_288 => ?_) (fun c_288 => ?_)
                · exact absurd rfl c_288
                · refine lv_aload_n hx hb dL_weights_291 rfl (lv_at hl 8 rfl) ?_
                  refine lq_v (B0 := (LB cI cC cJ cZ cQ x0 a0 a1 a2 a3 a4 a5 a6 v0 v1 t0 t1 h0 u0 u1 pa rg z1 ((nx + 1) % 6) (min (cnt + 1) 6) (updS S nx z) wq2 hv hk hc)) (B1 := (LB cI cC cJ cZ cQ x0 a0 a1 a2 a3 a4 a5 a6 v0 v1 t0 t1 h0 u0 u1 pa rg z1 ((nx + 1) % 6) (min (cnt + 1) 6) (updS S nx z) (fillG z1.2.2.2.2.2.2.2.1 z1.2.2.2.2.2.1) hv hk hc)) (U := [0, 1, 2, 3, 4, 5, 6, 7]) (isC := [0, 1, 7]) (isR := [2, 3, 4, 5, 6]) (As := []) (rest := []) ⟨hx, hb, hml, hown, hts⟩ (kX7_sums l D H.size cI cC cJ cZ cQ x0 v0 t0 h0 u0 a0 a1 a2 a3 a4 a5 a6 z1 u1 wq2 hq2 hhf1) (cwV 0 hts gL_weights_X7_sums rfl rfl rfl (by decide +kernel) ⟨Nat.le_of_ble_eq_true rfl, Nat.le_of_ble_eq_true rfl⟩) hP hD hK hS hA hN (by decide) rfl rfl rfl 0 7 rfl rfl rfl rfl hl.1 rfl (Nat.le_of_ble_eq_true rfl) dL_weights_292 ⟨Nat.le_of_ble_eq_true rfl, Nat.le_of_ble_eq_true rfl⟩ (fun H locs hP hD hS => ?_)
                  have hP : va_P D vwCl (fmB (LB cI cC cJ cZ cQ x0 a0 a1 a2 a3 a4 a5 a6 v0 v1 t0 t1 h0 u0 u1 pa rg z1 ((nx + 1) % 6) (min (cnt + 1) 6) (updS S nx z) (fillG z1.2.2.2.2.2.2.2.1 z1.2.2.2.2.2.1) hv hk hc) [0, 1, 2, 3, 4, 5, 6, 7]) H := hP
                  have hD : va_D A (fmB (LB cI cC cJ cZ cQ x0 a0 a1 a2 a3 a4 a5 a6 v0 v1 t0 t1 h0 u0 u1 pa rg z1 ((nx + 1) % 6) (min (cnt + 1) 6) (updS S nx z) (fillG z1.2.2.2.2.2.2.2.1 z1.2.2.2.2.2.1) hv hk hc) [0, 1, 2, 3, 4, 5, 6, 7]) := hD
                  obtain ⟨wq3, hwq3⟩ : ∃ q9 : Nat → Int64, q9 = (fillG z1.2.2.2.2.2.2.2.1 z1.2.2.2.2.2.1) := ⟨_, rfl⟩
                  rw [← hwq3] at hP hD
                  have hP : va_P D vwCl (fmB (LB cI cC cJ cZ cQ x0 a0 a1 a2 a3 a4 a5 a6 v0 v1 t0 t1 h0 u0 u1 pa rg z1 ((nx + 1) % 6) (min (cnt + 1) 6) (updS S nx z) wq3 hv hk hc) [0, 1, 2, 3, 4, 5, 6, 7]) H := hP
                  have hD : va_D A (fmB (LB cI cC cJ cZ cQ x0 a0 a1 a2 a3 a4 a5 a6 v0 v1 t0 t1 h0 u0 u1 pa rg z1 ((nx + 1) % 6) (min (cnt + 1) 6) (updS S nx z) wq3 hv hk hc) [0, 1, 2, 3, 4, 5, 6, 7]) := hD
                  refine k_topi (y := cntL (fillG z.2.2.2.2.2.2.2.1 z.2.2.2.2.2.1) 64) (by rw [e6, e8]; exact (srt_same hw1 hff).2.1) ?_
                  refine lv_iload hx hb dL_weights_295 (lv_at hl 2 rfl) ?_
                  refine lv_icmp_ne (tgt := 313) hx hb dL_weights_297 (by decide) (fun c_297 => ?_) (fun c_297 => ?_)
                  · exact absurd rfl c_297
                  · refine lv_aload_n hx hb dL_weights_300 rfl (lv_at hl 8 rfl) ?_
                    refine lq_v (B0 := (LB cI cC cJ cZ cQ x0 a0 a1 a2 a3 a4 a5 a6 v0 v1 t0 t1 h0 u0 u1 pa rg z1 ((nx + 1) % 6) (min (cnt + 1) 6) (updS S nx z) wq3 hv hk hc)) (B1 := (LB cI cC cJ cZ cQ x0 a0 a1 a2 a3 a4 a5 a6 v0 v1 t0 t1 h0 u0 u1 pa rg z1 ((nx + 1) % 6) (min (cnt + 1) 6) (updS S nx z) (fillG z1.2.2.2.2.2.2.2.1 z1.2.2.2.2.2.1) hv hk hc)) (U := [0, 1, 2, 3, 4, 5, 6, 7]) (isC := [0, 1, 7]) (isR := [2, 3, 4, 5, 6]) (As := []) (rest := []) ⟨hx, hb, hml, hown, hts⟩ (kX7_leastMissing l D H.size cI cC cJ cZ cQ x0 v0 t0 h0 u0 a0 a1 a2 a3 a4 a5 a6 z1 u1 wq3 hq2 hhf1) (cwV 0 hts gL_weights_X7_leastMissing rfl rfl rfl (by decide +kernel) ⟨Nat.le_of_ble_eq_true rfl, Nat.le_of_ble_eq_true rfl⟩) hP hD hK hS hA hN (by decide) rfl rfl rfl 0 7 rfl rfl rfl rfl hl.1 rfl (Nat.le_of_ble_eq_true rfl) dL_weights_301 ⟨Nat.le_of_ble_eq_true rfl, Nat.le_of_ble_eq_true rfl⟩ (fun H locs hP hD hS => ?_)
                    have hP : va_P D vwCl (fmB (LB cI cC cJ cZ cQ x0 a0 a1 a2 a3 a4 a5 a6 v0 v1 t0 t1 h0 u0 u1 pa rg z1 ((nx + 1) % 6) (min (cnt + 1) 6) (updS S nx z) (fillG z1.2.2.2.2.2.2.2.1 z1.2.2.2.2.2.1) hv hk hc) [0, 1, 2, 3, 4, 5, 6, 7]) H := hP
                    have hD : va_D A (fmB (LB cI cC cJ cZ cQ x0 a0 a1 a2 a3 a4 a5 a6 v0 v1 t0 t1 h0 u0 u1 pa rg z1 ((nx + 1) % 6) (min (cnt + 1) 6) (updS S nx z) (fillG z1.2.2.2.2.2.2.2.1 z1.2.2.2.2.2.1) hv hk hc) [0, 1, 2, 3, 4, 5, 6, 7]) := hD
                    obtain ⟨wq4, hwq4⟩ : ∃ q9 : Nat → Int64, q9 = (fillG z1.2.2.2.2.2.2.2.1 z1.2.2.2.2.2.1) := ⟨_, rfl⟩
                    rw [← hwq4] at hP hD
                    have hP : va_P D vwCl (fmB (LB cI cC cJ cZ cQ x0 a0 a1 a2 a3 a4 a5 a6 v0 v1 t0 t1 h0 u0 u1 pa rg z1 ((nx + 1) % 6) (min (cnt + 1) 6) (updS S nx z) wq4 hv hk hc) [0, 1, 2, 3, 4, 5, 6, 7]) H := hP
                    have hD : va_D A (fmB (LB cI cC cJ cZ cQ x0 a0 a1 a2 a3 a4 a5 a6 v0 v1 t0 t1 h0 u0 u1 pa rg z1 ((nx + 1) % 6) (min (cnt + 1) 6) (updS S nx z) wq4 hv hk hc) [0, 1, 2, 3, 4, 5, 6, 7]) := hD
                    refine k_topi (y := nI (lmGo (fillG z.2.2.2.2.2.2.2.1 z.2.2.2.2.2.1) 4095 1)) (by rw [e6, e8]; exact congrArg nI (srt_same hw1 hff).2.2) ?_
                    refine lv_iload hx hb dL_weights_304 (lv_at hl 1 rfl) ?_
                    refine lv_icmp_ne (tgt := 313) hx hb dL_weights_306 (by decide) (fun c_306 => ?_) (fun c_306 => ?_)
                    · exact absurd rfl c_306
                    · refine lv_iconst (v := 1) hx hb dL_weights_309 (by decide) ?_
                      refine lv_goto (tgt := 314) hx hb dL_weights_310 (by decide) ?_
                      refine lv_istore (lv' := [(11, .int 1), (10, .int (nI (misp z.2.2.2.2.2.2.2.1 z.2.2.2.2.2.1 z.2.2.2.2.2.1))), (9, .int (nI (lmGo (fillG z.2.2.2.2.2.2.2.1 z.2.2.2.2.2.1) 4095 1))), (8, .int (cntL (fillG z.2.2.2.2.2.2.2.1 z.2.2.2.2.2.1) 64)), (7, .int (nI (sizeN (n / 12)))), (6, .int (z.2.2.2.2.2.2.2.1 (n % z.2.2.2.2.2.1))), (5, .int (nI (n % z.2.2.2.2.2.1))), (4, .int (sumW z.2.2.2.2.2.2.2.1 z.2.2.2.2.2.1)), (3, .int (nI z.2.2.2.2.2.1)), (0, .ref x0), (1, .int (nI how)), (2, .int (nI n))]) hx hb dL_weights_314 hl (by decide) rfl (fun ls hl => ?_)
                      refine lv_iconst (v := 1) hx hb dL_weights_316 (by decide) ?_
                      refine lv_istore (lv' := [(12, .int 1), (11, .int 1), (10, .int (nI (misp z.2.2.2.2.2.2.2.1 z.2.2.2.2.2.1 z.2.2.2.2.2.1))), (9, .int (nI (lmGo (fillG z.2.2.2.2.2.2.2.1 z.2.2.2.2.2.1) 4095 1))), (8, .int (cntL (fillG z.2.2.2.2.2.2.2.1 z.2.2.2.2.2.1) 64)), (7, .int (nI (sizeN (n / 12)))), (6, .int (z.2.2.2.2.2.2.2.1 (n % z.2.2.2.2.2.1))), (5, .int (nI (n % z.2.2.2.2.2.1))), (4, .int (sumW z.2.2.2.2.2.2.2.1 z.2.2.2.2.2.1)), (3, .int (nI z.2.2.2.2.2.1)), (0, .ref x0), (1, .int (nI how)), (2, .int (nI n))]) hx hb dL_weights_317 hl (by decide) rfl (fun ls hl => ?_)
                      have J319 : ∀ (fuel : Nat) (k : Nat) (hk1 : 1 ≤ k) (hj0 : k ≤ z.2.2.2.2.2.1) (hm : z.2.2.2.2.2.1 - k < fuel) (H : Heap) (locs : List Loc) (hP : va_P D vwCl (fmB (LB cI cC cJ cZ cQ x0 a0 a1 a2 a3 a4 a5 a6 v0 v1 t0 t1 h0 u0 u1 pa rg z1 ((nx + 1) % 6) (min (cnt + 1) 6) (updS S nx z) wq4 hv hk hc) [0, 1, 2, 3, 4, 5, 6, 7]) H) (hD : va_D A (fmB (LB cI cC cJ cZ cQ x0 a0 a1 a2 a3 a4 a5 a6 v0 v1 t0 t1 h0 u0 u1 pa rg z1 ((nx + 1) % 6) (min (cnt + 1) 6) (updS S nx z) wq4 hv hk hc) [0, 1, 2, 3, 4, 5, 6, 7])) (hS : va_S A s.heap H locs) (ls : Array Slot) (hl : lv_has ls 13 [(12, .int (nI k)), (11, .int 1), (10, .int (nI (misp z.2.2.2.2.2.2.2.1 z.2.2.2.2.2.1 z.2.2.2.2.2.1))), (9, .int (nI (lmGo (fillG z.2.2.2.2.2.2.2.1 z.2.2.2.2.2.1) 4095 1))), (8, .int (cntL (fillG z.2.2.2.2.2.2.2.1 z.2.2.2.2.2.1) 64)), (7, .int (nI (sizeN (n / 12)))), (6, .int (z.2.2.2.2.2.2.2.1 (n % z.2.2.2.2.2.1))), (5, .int (nI (n % z.2.2.2.2.2.1))), (4, .int (sumW z.2.2.2.2.2.2.2.1 z.2.2.2.2.2.1)), (3, .int (nI z.2.2.2.2.2.1)), (0, .ref x0), (1, .int (nI how)), (2, .int (nI n))]), W p l e rmmL_weights3 s m args below meth c H locs 0 0 (MQ below (oQi D (fun (r9 : Int32) (u9 : OS) => 1 = r9 ∧ oI u9.1 u9.2.1 u9.2.2.1 u9.2.2.2.1 ∧ u9.2.1 = (nx + 1) % 6 ∧ u9.2.2.1 = min (cnt + 1) 6 ∧ u9.2.2.2.1 = updS S nx z) (fun (u9 : OS) => fmB (LB cI cC cJ cZ cQ x0 a0 a1 a2 a3 a4 a5 a6 v0 v1 t0 t1 h0 u0 u1 pa rg u9.1 u9.2.1 u9.2.2.1 u9.2.2.2.1 u9.2.2.2.2.1 u9.2.2.2.2.2.1 u9.2.2.2.2.2.2.1 u9.2.2.2.2.2.2.2) [0, 1, 2, 3, 4, 5, 6, 7]) A) args s 2 12 A) (F0 m 319 ls []) := by
                        intro fuel
                        induction fuel with
                        | zero => intro k hk1 hj0 hm; exact absurd hm (Nat.not_lt_zero _)
                        | succ fuel ih319 =>
                          intro k hk1 hj0 hm H locs hP hD hS ls hl
                          refine lv_iload hx hb dL_weights_319 (lv_at hl 0 rfl) ?_
                          refine lv_iload_n hx hb dL_weights_321 rfl (lv_at hl 9 rfl) ?_
                          refine lv_icmp_ge (tgt := 362) hx hb dL_weights_322 (by decide) (fun c_322 => ?_) (fun c_322 => ?_)
                          · have c_322 : z.2.2.2.2.2.1 ≤ k := (nI_leI (a := z.2.2.2.2.2.1) (b := k) (by omega) (by omega)).mp c_322
                            refine lv_iload hx hb dL_weights_362 (lv_at hl 1 rfl) ?_
                            refine W.widen (k := 2) (n := 12) (Nat.le_of_ble_eq_true rfl) (Nat.le_of_ble_eq_true rfl) ?_
                            exact kr_oz (u := (z1, (nx + 1) % 6, min (cnt + 1) 6, updS S nx z, wq4, hv, hk, hc)) (v := 1) hx hb hr hlocks rfl hP hD hS ⟨rfl, oI_push hI hz9, rfl, rfl, rfl⟩ dL_weights_364
                          · have c_322 : ¬ z.2.2.2.2.2.1 ≤ k := fun h => c_322 ((nI_leI (a := z.2.2.2.2.2.1) (b := k) (by omega) (by omega)).mpr h)
                            refine lv_iload hx hb dL_weights_325 (lv_at hl 1 rfl) ?_
                            refine lv_if_eq (tgt := 362) hx hb dL_weights_327 (by decide) (fun h => absurd h (by decide)) (fun _ => ?_)
                            refine lv_aload_n hx hb dL_weights_330 rfl (lv_at hl 10 rfl) ?_
                            refine lv_iconst (v := 0) hx hb dL_weights_331 (by decide) ?_
                            refine lv_iload hx hb dL_weights_332 (lv_at hl 0 rfl) ?_
                            refine lv_iconst (v := 1) hx hb dL_weights_334 (by decide) ?_
                            refine lv_isub hx hb dL_weights_335 ?_
                            refine k_topi (y := nI (k - 1)) (pk_sub (a := k) (b := 1) (by omega)) ?_
                            refine lq_s (B0 := (LB cI cC cJ cZ cQ x0 a0 a1 a2 a3 a4 a5 a6 v0 v1 t0 t1 h0 u0 u1 pa rg z1 ((nx + 1) % 6) (min (cnt + 1) 6) (updS S nx z) wq4 hv hk hc)) (B1 := (LB cI cC cJ cZ cQ x0 a0 a1 a2 a3 a4 a5 a6 v0 v1 t0 t1 h0 u0 u1 pa rg z1 ((nx + 1) % 6) (min (cnt + 1) 6) (updS S nx z) wq4 hv hk hc)) (U := [0, 1, 2, 3, 4, 5, 6, 7]) (isC := [0, 1]) (isR := [2, 3, 4, 5, 6, 7]) (As := [.ref x0, .int 0, .int (nI (k - 1))]) (rest := []) ⟨hx, hb, hml, hown, hts⟩ (kL_weight_ok l D H.size cI cC cJ cZ cQ x0 v0 t0 h0 u0 a0 a1 a2 a3 a4 a5 a6 z1 (k - 1) hq2 (by omega)) (vx_cwSW 3 hts gL_weights_L_ask rfl rfl rfl (by decide +kernel) ⟨Nat.le_of_ble_eq_true rfl, Nat.le_of_ble_eq_true rfl⟩) hP hD hK hS hA hN (by decide) rfl rfl rfl rfl hl.1 rfl (Nat.le_of_ble_eq_true rfl) dL_weights_336 ⟨Nat.le_of_ble_eq_true rfl, Nat.le_of_ble_eq_true rfl⟩ (fun H locs hP hD hS => ?_)
                            refine lv_aload_n hx hb dL_weights_339 rfl (lv_at hl 10 rfl) ?_
                            refine lv_iconst (v := 0) hx hb dL_weights_340 (by decide) ?_
                            refine lv_iload hx hb dL_weights_341 (lv_at hl 0 rfl) ?_
                            refine lq_s (B0 := (LB cI cC cJ cZ cQ x0 a0 a1 a2 a3 a4 a5 a6 v0 v1 t0 t1 h0 u0 u1 pa rg z1 ((nx + 1) % 6) (min (cnt + 1) 6) (updS S nx z) wq4 hv hk hc)) (B1 := (LB cI cC cJ cZ cQ x0 a0 a1 a2 a3 a4 a5 a6 v0 v1 t0 t1 h0 u0 u1 pa rg z1 ((nx + 1) % 6) (min (cnt + 1) 6) (updS S nx z) wq4 hv hk hc)) (U := [0, 1, 2, 3, 4, 5, 6, 7]) (isC := [0, 1]) (isR := [2, 3, 4, 5, 6, 7]) (As := [.ref x0, .int 0, .int (nI k)]) (rest := [.int (z1.2.2.2.2.2.2.2.1 (k - 1))]) ⟨hx, hb, hml, hown, hts⟩ (kL_weight_ok l D H.size cI cC cJ cZ cQ x0 v0 t0 h0 u0 a0 a1 a2 a3 a4 a5 a6 z1 k hq2 (by omega)) (vx_cwSW 3 hts gL_weights_L_ask rfl rfl rfl (by decide +kernel) ⟨Nat.le_of_ble_eq_true rfl, Nat.le_of_ble_eq_true rfl⟩) hP hD hK hS hA hN (by decide) rfl rfl rfl rfl hl.1 rfl (Nat.le_of_ble_eq_true rfl) dL_weights_343 ⟨Nat.le_of_ble_eq_true rfl, Nat.le_of_ble_eq_true rfl⟩ (fun H locs hP hD hS => ?_)
                            refine lv_icmp_lt (tgt := 353) hx hb dL_weights_346 (by decide) (fun c_346 => ?_) (fun c_346 => ?_)
                            · exact absurd c_346 (by subst hz1; exact srt_dn hk1 (by omega))
                            · refine lv_iconst (v := 1) hx hb dL_weights_349 (by decide) ?_
                              refine lv_goto (tgt := 354) hx hb dL_weights_350 (by decide) ?_
                              refine lv_istore (lv' := [(11, .int 1), (12, .int (nI k)), (10, .int (nI (misp z.2.2.2.2.2.2.2.1 z.2.2.2.2.2.1 z.2.2.2.2.2.1))), (9, .int (nI (lmGo (fillG z.2.2.2.2.2.2.2.1 z.2.2.2.2.2.1) 4095 1))), (8, .int (cntL (fillG z.2.2.2.2.2.2.2.1 z.2.2.2.2.2.1) 64)), (7, .int (nI (sizeN (n / 12)))), (6, .int (z.2.2.2.2.2.2.2.1 (n % z.2.2.2.2.2.1))), (5, .int (nI (n % z.2.2.2.2.2.1))), (4, .int (sumW z.2.2.2.2.2.2.2.1 z.2.2.2.2.2.1)), (3, .int (nI z.2.2.2.2.2.1)), (0, .ref x0), (1, .int (nI how)), (2, .int (nI n))]) hx hb dL_weights_354 hl (by decide) rfl (fun ls hl => ?_)
                              refine lv_iinc (v := nI (k + 1)) (lv' := [(12, .int (nI (k + 1))), (11, .int 1), (10, .int (nI (misp z.2.2.2.2.2.2.2.1 z.2.2.2.2.2.1 z.2.2.2.2.2.1))), (9, .int (nI (lmGo (fillG z.2.2.2.2.2.2.2.1 z.2.2.2.2.2.1) 4095 1))), (8, .int (cntL (fillG z.2.2.2.2.2.2.2.1 z.2.2.2.2.2.1) 64)), (7, .int (nI (sizeN (n / 12)))), (6, .int (z.2.2.2.2.2.2.2.1 (n % z.2.2.2.2.2.1))), (5, .int (nI (n % z.2.2.2.2.2.1))), (4, .int (sumW z.2.2.2.2.2.2.2.1 z.2.2.2.2.2.1)), (3, .int (nI z.2.2.2.2.2.1)), (0, .ref x0), (1, .int (nI how)), (2, .int (nI n))]) hx hb dL_weights_356 hl (k := 1) rfl (by exact k_inc k) (by decide) rfl (fun ls hl => ?_)
                              refine lv_goto (tgt := 319) hx hb dL_weights_359 (by decide) ?_
                              exact ih319 (k + 1) (by first | assumption | omega) (by first | assumption | omega) (by omega) _ _ hP hD hS _ (lv_sub hl [0, 1, 2, 3, 4, 5, 6, 7, 8, 9, 10, 11, 12] rfl)
                      exact J319 (z.2.2.2.2.2.1 - 1 + 1) 1 (by first | assumption | omega) (by first | assumption | omega) (Nat.lt_succ_self _) _ _ hP hD hS _ (lv_sub hl [0, 1, 2, 3, 4, 5, 6, 7, 8, 9, 10, 11, 12] rfl)
        · have c_174 : how = 2 := (nI_eq (a := how) (b := 2) (by omega) (by omega)).mp c_174
          omega
      · have c_93 : ¬ 12 ≤ z.2.2.2.2.2.1 := fun h => c_93 ((nI_leI (a := 12) (b := z.2.2.2.2.2.1) (by omega) (by omega)).mpr h)
        omega
  · have c_35 : how = 0 := (nI_eq (a := how) (b := 0) (by omega) (by omega)).mp c_35
    omega

abbrev rmmL_weights4 : Room := { frames := 9, cells := 2, slots := 12, locals := 170 }
set_option maxHeartbeats 4000000 in
set_option maxRecDepth 100000 in
theorem mL_weights4 (l : Launch) (hst : l.stackTraces = false) (D : va_G) (sz : Nat) (cI : ClassId) (cC : ClassId) (cJ : ClassId) (cZ : ClassId) (cQ : ClassId) (x0 : Nat) (a0 : Nat) (a1 : Nat) (a2 : Nat) (a3 : Nat) (a4 : Nat) (a5 : Nat) (a6 : Nat) (v0 : Nat) (v1 : Nat) (t0 : Nat) (t1 : Nat) (h0 : Nat) (u0 : Nat) (u1 : Nat) (pa : Nat → Nat) (rg : Nat → Option Nat) (z : StV) (nx : Nat) (cnt : Nat) (S : Nat → StV) (wd : Nat → Int64) (hv : Int32) (hk : Int32) (hc : Int32) (how : Nat) (n : Nat) (hI : oI z nx cnt S) (hrg : rgOK rg pa) (hn : n < 2147483648) (hh : how = 2 ∧ z.2.2.2.2.2.1 ≤ 1) : Met l yL_weights wsL_weights rmmL_weights4 (va_Pc [.ref x0, .int (nI how), .int (nI n)] (oPre D sz (fmB (LB cI cC cJ cZ cQ x0 a0 a1 a2 a3 a4 a5 a6 v0 v1 t0 t1 h0 u0 u1 pa rg z nx cnt S wd hv hk hc) [0, 1, 2, 3, 4, 5, 6, 7]) (kT cI cC cJ cZ cQ))) (oQi D (fun (r9 : Int32) (u9 : OS) => 1 = r9 ∧ oI u9.1 u9.2.1 u9.2.2.1 u9.2.2.2.1 ∧ u9.2.1 = (nx + 1) % 6 ∧ u9.2.2.1 = min (cnt + 1) 6 ∧ u9.2.2.2.1 = updS S nx z) (fun (u9 : OS) => fmB (LB cI cC cJ cZ cQ x0 a0 a1 a2 a3 a4 a5 a6 v0 v1 t0 t1 h0 u0 u1 pa rg u9.1 u9.2.1 u9.2.2.1 u9.2.2.2.1 u9.2.2.2.2.1 u9.2.2.2.2.2.1 u9.2.2.2.2.2.2.1 u9.2.2.2.2.2.2.2) [0, 1, 2, 3, 4, 5, 6, 7]) (va_A (fmB (LB cI cC cJ cZ cQ x0 a0 a1 a2 a3 a4 a5 a6 v0 v1 t0 t1 h0 u0 u1 pa rg z nx cnt S wd hv hk hc) [0, 1, 2, 3, 4, 5, 6, 7]) sz)) 2 12 (va_A (fmB (LB cI cC cJ cZ cQ x0 a0 a1 a2 a3 a4 a5 a6 v0 v1 t0 t1 h0 u0 u1 pa rg z nx cnt S wd hv hk hc) [0, 1, 2, 3, 4, 5, 6, 7]) sz) := by
  refine k_metO (Qf := oQi D (fun (r9 : Int32) (u9 : OS) => 1 = r9 ∧ oI u9.1 u9.2.1 u9.2.2.1 u9.2.2.2.1 ∧ u9.2.1 = (nx + 1) % 6 ∧ u9.2.2.1 = min (cnt + 1) 6 ∧ u9.2.2.2.1 = updS S nx z) (fun (u9 : OS) => fmB (LB cI cC cJ cZ cQ x0 a0 a1 a2 a3 a4 a5 a6 v0 v1 t0 t1 h0 u0 u1 pa rg u9.1 u9.2.1 u9.2.2.1 u9.2.2.2.1 u9.2.2.2.2.1 u9.2.2.2.2.2.1 u9.2.2.2.2.2.2.1 u9.2.2.2.2.2.2.2) [0, 1, 2, 3, 4, 5, 6, 7])) (cc := cL_weights) (maxL := 13) (ret := (some .boolean)) (own := RL) (by decide) rfl (Nat.le_of_ble_eq_true rfl) rfl ?_
  intro p e s m args below meth c ls A H locs hx hb hr hts hown hlocks hml hsz hP hK hD hA hS hN hE hO hl
  have hl : lv_has ls 13 [(0, .ref x0), (1, .int (nI how)), (2, .int (nI n))] := hl
  obtain ⟨hw1, hwz, hlz⟩ := zI_b hI.1
  obtain ⟨hnx, hcnt, -⟩ := hI.2
  have hff := zI_f hI.1
  have hhf := zI_hf hI.1
  have hkw : n % z.2.2.2.2.2.1 < z.2.2.2.2.2.1 := Nat.mod_lt _ (by omega)
  refine lv_aload_n hx hb dL_weights_0 rfl (lv_at hl 0 rfl) ?_
  refine lq_v (B0 := (LB cI cC cJ cZ cQ x0 a0 a1 a2 a3 a4 a5 a6 v0 v1 t0 t1 h0 u0 u1 pa rg z nx cnt S wd hv hk hc)) (B1 := (LB cI cC cJ cZ cQ x0 a0 a1 a2 a3 a4 a5 a6 v0 v1 t0 t1 h0 u0 u1 pa rg z nx cnt S wd hv hk hc)) (U := [0, 1, 2, 3, 4, 5, 6, 7]) (isC := [0, 1]) (isR := [2, 3, 4, 5, 6, 7]) (As := []) (rest := []) ⟨hx, hb, hml, hown, hts⟩ (kX7_weights l D H.size cI cC cJ cZ cQ x0 v0 t0 h0 u0 a0 a1 a2 a3 a4 a5 a6 z) (cwV 0 hts gL_weights_X7_weights rfl rfl rfl (by decide +kernel) ⟨Nat.le_of_ble_eq_true rfl, Nat.le_of_ble_eq_true rfl⟩) hP hD hK hS hA hN (by decide) rfl rfl rfl 0 7 rfl rfl rfl rfl hl.1 rfl (Nat.le_of_ble_eq_true rfl) dL_weights_1 ⟨Nat.le_of_ble_eq_true rfl, Nat.le_of_ble_eq_true rfl⟩ (fun H locs hP hD hS => ?_)
  refine lv_istore_n (lv' := [(3, .int (nI z.2.2.2.2.2.1)), (0, .ref x0), (1, .int (nI how)), (2, .int (nI n))]) hx hb dL_weights_4 rfl hl (by decide) rfl (fun ls hl => ?_)
  refine lv_aload_n hx hb dL_weights_5 rfl (lv_at hl 1 rfl) ?_
  refine lq_v (B0 := (LB cI cC cJ cZ cQ x0 a0 a1 a2 a3 a4 a5 a6 v0 v1 t0 t1 h0 u0 u1 pa rg z nx cnt S wd hv hk hc)) (B1 := (LB cI cC cJ cZ cQ x0 a0 a1 a2 a3 a4 a5 a6 v0 v1 t0 t1 h0 u0 u1 pa rg z nx cnt S wd hv hk hc)) (U := [0, 1, 2, 3, 4, 5, 6, 7]) (isC := [0, 1]) (isR := [2, 3, 4, 5, 6, 7]) (As := []) (rest := []) ⟨hx, hb, hml, hown, hts⟩ (kX7_total l D H.size cI cC cJ cZ cQ x0 v0 t0 h0 u0 a0 a1 a2 a3 a4 a5 a6 z (by first | assumption | omega)) (cwV 0 hts gL_weights_X7_total rfl rfl rfl (by decide +kernel) ⟨Nat.le_of_ble_eq_true rfl, Nat.le_of_ble_eq_true rfl⟩) hP hD hK hS hA hN (by decide) rfl rfl rfl 0 7 rfl rfl rfl rfl hl.1 rfl (Nat.le_of_ble_eq_true rfl) dL_weights_6 ⟨Nat.le_of_ble_eq_true rfl, Nat.le_of_ble_eq_true rfl⟩ (fun H locs hP hD hS => ?_)
  refine lv_istore (lv' := [(4, .int (sumW z.2.2.2.2.2.2.2.1 z.2.2.2.2.2.1)), (3, .int (nI z.2.2.2.2.2.1)), (0, .ref x0), (1, .int (nI how)), (2, .int (nI n))]) hx hb dL_weights_9 hl (by decide) rfl (fun ls hl => ?_)
  refine lv_iload_n hx hb dL_weights_11 rfl (lv_at hl 4 rfl) ?_
  refine lv_iload_n hx hb dL_weights_12 rfl (lv_at hl 1 rfl) ?_
  refine lv_irem hx hb dL_weights_13 (fun h9 => by have h8 := (nI_eq (a := z.2.2.2.2.2.1) (b := 0) (by omega) (by omega)).mp h9; omega) ?_
  refine k_topi (y := nI (n % z.2.2.2.2.2.1)) (pk_rem (a := n) (d := z.2.2.2.2.2.1) (by omega) (by omega) (by omega)) ?_
  refine lv_istore (lv' := [(5, .int (nI (n % z.2.2.2.2.2.1))), (4, .int (sumW z.2.2.2.2.2.2.2.1 z.2.2.2.2.2.1)), (3, .int (nI z.2.2.2.2.2.1)), (0, .ref x0), (1, .int (nI how)), (2, .int (nI n))]) hx hb dL_weights_14 hl (by decide) rfl (fun ls hl => ?_)
  refine lv_aload_n hx hb dL_weights_16 rfl (lv_at hl 3 rfl) ?_
  refine lv_iconst (v := 0) hx hb dL_weights_17 (by decide) ?_
  refine lv_iload hx hb dL_weights_18 (lv_at hl 0 rfl) ?_
  refine lq_s (B0 := (LB cI cC cJ cZ cQ x0 a0 a1 a2 a3 a4 a5 a6 v0 v1 t0 t1 h0 u0 u1 pa rg z nx cnt S wd hv hk hc)) (B1 := (LB cI cC cJ cZ cQ x0 a0 a1 a2 a3 a4 a5 a6 v0 v1 t0 t1 h0 u0 u1 pa rg z nx cnt S wd hv hk hc)) (U := [0, 1, 2, 3, 4, 5, 6, 7]) (isC := [0, 1]) (isR := [2, 3, 4, 5, 6, 7]) (As := [.ref x0, .int 0, .int (nI (n % z.2.2.2.2.2.1))]) (rest := []) ⟨hx, hb, hml, hown, hts⟩ (kL_weight_ok l D H.size cI cC cJ cZ cQ x0 v0 t0 h0 u0 a0 a1 a2 a3 a4 a5 a6 z (n % z.2.2.2.2.2.1) (by first | assumption | omega) hkw) (vx_cwSW 3 hts gL_weights_L_ask rfl rfl rfl (by decide +kernel) ⟨Nat.le_of_ble_eq_true rfl, Nat.le_of_ble_eq_true rfl⟩) hP hD hK hS hA hN (by decide) rfl rfl rfl rfl hl.1 rfl (Nat.le_of_ble_eq_true rfl) dL_weights_20 ⟨Nat.le_of_ble_eq_true rfl, Nat.le_of_ble_eq_true rfl⟩ (fun H locs hP hD hS => ?_)
  refine lv_istore (lv' := [(6, .int (z.2.2.2.2.2.2.2.1 (n % z.2.2.2.2.2.1))), (5, .int (nI (n % z.2.2.2.2.2.1))), (4, .int (sumW z.2.2.2.2.2.2.2.1 z.2.2.2.2.2.1)), (3, .int (nI z.2.2.2.2.2.1)), (0, .ref x0), (1, .int (nI how)), (2, .int (nI n))]) hx hb dL_weights_23 hl (by decide) rfl (fun ls hl => ?_)
  refine lv_iload_n hx hb dL_weights_25 rfl (lv_at hl 6 rfl) ?_
  refine lv_bipush (v := 12) hx hb dL_weights_26 (by decide) ?_
  refine lv_idiv hx hb dL_weights_28 (by decide) ?_
  refine k_topi (y := nI (n / 12)) (pk_div (a := n) (d := 12) (by omega) (by omega) (by omega)) ?_
  refine ks_i0 (As := [.int (nI (n / 12))]) (rest := []) ⟨hx, hb, hml, hown, hts⟩ (mL_size l (n / 12) (by first | assumption | omega)) (va_cwS 1 hts gL_weights_L_size rfl rfl rfl (by decide +kernel) ⟨Nat.le_of_ble_eq_true rfl, Nat.le_of_ble_eq_true rfl⟩) hP hS rfl hl.1 rfl (Nat.le_of_ble_eq_true rfl) dL_weights_29 ⟨Nat.zero_le _, Nat.zero_le _⟩ (fun H locs hP hS => ?_)
  refine lv_istore (lv' := [(7, .int (nI (sizeN (n / 12)))), (6, .int (z.2.2.2.2.2.2.2.1 (n % z.2.2.2.2.2.1))), (5, .int (nI (n % z.2.2.2.2.2.1))), (4, .int (sumW z.2.2.2.2.2.2.2.1 z.2.2.2.2.2.1)), (3, .int (nI z.2.2.2.2.2.1)), (0, .ref x0), (1, .int (nI how)), (2, .int (nI n))]) hx hb dL_weights_32 hl (by decide) rfl (fun ls hl => ?_)
  refine lv_iload_n hx hb dL_weights_34 rfl (lv_at hl 6 rfl) ?_
  refine lv_if_ne (tgt := 85) hx hb dL_weights_35 (by decide) (fun c_35 => ?_) (fun c_35 => ?_)
  · have c_35 : ¬ how = 0 := fun h => c_35 ((nI_eq (a := how) (b := 0) (by omega) (by omega)).mpr h)
    refine lv_iload_n hx hb dL_weights_85 rfl (lv_at hl 6 rfl) ?_
    refine lv_iconst (v := 1) hx hb dL_weights_86 (by decide) ?_
    refine lv_icmp_ne (tgt := 172) hx hb dL_weights_87 (by decide) (fun c_87 => ?_) (fun c_87 => ?_)
    · have c_87 : ¬ how = 1 := fun h => c_87 ((nI_eq (a := how) (b := 1) (by omega) (by omega)).mpr h)
      refine lv_iload_n hx hb dL_weights_172 rfl (lv_at hl 6 rfl) ?_
      refine lv_iconst (v := 2) hx hb dL_weights_173 (by decide) ?_
      refine lv_icmp_ne (tgt := 247) hx hb dL_weights_174 (by decide) (fun c_174 => ?_) (fun c_174 => ?_)
      · have c_174 : ¬ how = 2 := fun h => c_174 ((nI_eq (a := how) (b := 2) (by omega) (by omega)).mpr h)
        omega
      · have c_174 : how = 2 := (nI_eq (a := how) (b := 2) (by omega) (by omega)).mp c_174
        refine lv_iload_n hx hb dL_weights_177 rfl (lv_at hl 4 rfl) ?_
        refine lv_iconst (v := 1) hx hb dL_weights_178 (by decide) ?_
        refine lv_icmp_le (tgt := 247) hx hb dL_weights_179 (by decide) (fun c_179 => ?_) (fun c_179 => ?_)
        · have c_179 : z.2.2.2.2.2.1 ≤ 1 := (nI_leI (a := z.2.2.2.2.2.1) (b := 1) (by omega) (by omega)).mp c_179
          refine lv_aload_n hx hb dL_weights_247 rfl (lv_at hl 5 rfl) ?_
          refine lq_v (B0 := (LB cI cC cJ cZ cQ x0 a0 a1 a2 a3 a4 a5 a6 v0 v1 t0 t1 h0 u0 u1 pa rg z nx cnt S wd hv hk hc)) (B1 := (LB cI cC cJ cZ cQ x0 a0 a1 a2 a3 a4 a5 a6 v0 v1 t0 t1 h0 u0 u1 pa rg z nx cnt S (fillG z.2.2.2.2.2.2.2.1 z.2.2.2.2.2.1) hv hk hc)) (U := [0, 1, 2, 3, 4, 5, 6, 7]) (isC := [0, 1, 7]) (isR := [2, 3, 4, 5, 6]) (As := []) (rest := []) ⟨hx, hb, hml, hown, hts⟩ (kX7_sums l D H.size cI cC cJ cZ cQ x0 v0 t0 h0 u0 a0 a1 a2 a3 a4 a5 a6 z u1 wd (by first | assumption | omega) (by first | assumption | omega)) (cwV 0 hts gL_weights_X7_sums rfl rfl rfl (by decide +kernel) ⟨Nat.le_of_ble_eq_true rfl, Nat.le_of_ble_eq_true rfl⟩) hP hD hK hS hA hN (by decide) rfl rfl rfl 0 7 rfl rfl rfl rfl hl.1 rfl (Nat.le_of_ble_eq_true rfl) dL_weights_248 ⟨Nat.le_of_ble_eq_true rfl, Nat.le_of_ble_eq_true rfl⟩ (fun H locs hP hD hS => ?_)
          have hP : va_P D vwCl (fmB (LB cI cC cJ cZ cQ x0 a0 a1 a2 a3 a4 a5 a6 v0 v1 t0 t1 h0 u0 u1 pa rg z nx cnt S (fillG z.2.2.2.2.2.2.2.1 z.2.2.2.2.2.1) hv hk hc) [0, 1, 2, 3, 4, 5, 6, 7]) H := hP
          have hD : va_D A (fmB (LB cI cC cJ cZ cQ x0 a0 a1 a2 a3 a4 a5 a6 v0 v1 t0 t1 h0 u0 u1 pa rg z nx cnt S (fillG z.2.2.2.2.2.2.2.1 z.2.2.2.2.2.1) hv hk hc) [0, 1, 2, 3, 4, 5, 6, 7]) := hD
          obtain ⟨wq1, hwq1⟩ : ∃ q9 : Nat → Int64, q9 = (fillG z.2.2.2.2.2.2.2.1 z.2.2.2.2.2.1) := ⟨_, rfl⟩
          rw [← hwq1] at hP hD
          have hP : va_P D vwCl (fmB (LB cI cC cJ cZ cQ x0 a0 a1 a2 a3 a4 a5 a6 v0 v1 t0 t1 h0 u0 u1 pa rg z nx cnt S wq1 hv hk hc) [0, 1, 2, 3, 4, 5, 6, 7]) H := hP
          have hD : va_D A (fmB (LB cI cC cJ cZ cQ x0 a0 a1 a2 a3 a4 a5 a6 v0 v1 t0 t1 h0 u0 u1 pa rg z nx cnt S wq1 hv hk hc) [0, 1, 2, 3, 4, 5, 6, 7]) := hD
          refine lv_istore (lv' := [(8, .int (cntL (fillG z.2.2.2.2.2.2.2.1 z.2.2.2.2.2.1) 64)), (7, .int (nI (sizeN (n / 12)))), (6, .int (z.2.2.2.2.2.2.2.1 (n % z.2.2.2.2.2.1))), (5, .int (nI (n % z.2.2.2.2.2.1))), (4, .int (sumW z.2.2.2.2.2.2.2.1 z.2.2.2.2.2.1)), (3, .int (nI z.2.2.2.2.2.1)), (0, .ref x0), (1, .int (nI how)), (2, .int (nI n))]) hx hb dL_weights_251 hl (by decide) rfl (fun ls hl => ?_)
          refine lv_aload_n hx hb dL_weights_253 rfl (lv_at hl 6 rfl) ?_
          refine lq_v (B0 := (LB cI cC cJ cZ cQ x0 a0 a1 a2 a3 a4 a5 a6 v0 v1 t0 t1 h0 u0 u1 pa rg z nx cnt S wq1 hv hk hc)) (B1 := (LB cI cC cJ cZ cQ x0 a0 a1 a2 a3 a4 a5 a6 v0 v1 t0 t1 h0 u0 u1 pa rg z nx cnt S (fillG z.2.2.2.2.2.2.2.1 z.2.2.2.2.2.1) hv hk hc)) (U := [0, 1, 2, 3, 4, 5, 6, 7]) (isC := [0, 1, 7]) (isR := [2, 3, 4, 5, 6]) (As := []) (rest := []) ⟨hx, hb, hml, hown, hts⟩ (kX7_leastMissing l D H.size cI cC cJ cZ cQ x0 v0 t0 h0 u0 a0 a1 a2 a3 a4 a5 a6 z u1 wq1 (by first | assumption | omega) (by first | assumption | omega)) (cwV 0 hts gL_weights_X7_leastMissing rfl rfl rfl (by decide +kernel) ⟨Nat.le_of_ble_eq_true rfl, Nat.le_of_ble_eq_true rfl⟩) hP hD hK hS hA hN (by decide) rfl rfl rfl 0 7 rfl rfl rfl rfl hl.1 rfl (Nat.le_of_ble_eq_true rfl) dL_weights_254 ⟨Nat.le_of_ble_eq_true rfl, Nat.le_of_ble_eq_true rfl⟩ (fun H locs hP hD hS => ?_)
          have hP : va_P D vwCl (fmB (LB cI cC cJ cZ cQ x0 a0 a1 a2 a3 a4 a5 a6 v0 v1 t0 t1 h0 u0 u1 pa rg z nx cnt S (fillG z.2.2.2.2.2.2.2.1 z.2.2.2.2.2.1) hv hk hc) [0, 1, 2, 3, 4, 5, 6, 7]) H := hP
          have hD : va_D A (fmB (LB cI cC cJ cZ cQ x0 a0 a1 a2 a3 a4 a5 a6 v0 v1 t0 t1 h0 u0 u1 pa rg z nx cnt S (fillG z.2.2.2.2.2.2.2.1 z.2.2.2.2.2.1) hv hk hc) [0, 1, 2, 3, 4, 5, 6, 7]) := hD
          obtain ⟨wq2, hwq2⟩ : ∃ q9 : Nat → Int64, q9 = (fillG z.2.2.2.2.2.2.2.1 z.2.2.2.2.2.1) := ⟨_, rfl⟩
          rw [← hwq2] at hP hD
          have hP : va_P D vwCl (fmB (LB cI cC cJ cZ cQ x0 a0 a1 a2 a3 a4 a5 a6 v0 v1 t0 t1 h0 u0 u1 pa rg z nx cnt S wq2 hv hk hc) [0, 1, 2, 3, 4, 5, 6, 7]) H := hP
          have hD : va_D A (fmB (LB cI cC cJ cZ cQ x0 a0 a1 a2 a3 a4 a5 a6 v0 v1 t0 t1 h0 u0 u1 pa rg z nx cnt S wq2 hv hk hc) [0, 1, 2, 3, 4, 5, 6, 7]) := hD
          refine lv_istore (lv' := [(9, .int (nI (lmGo (fillG z.2.2.2.2.2.2.2.1 z.2.2.2.2.2.1) 4095 1))), (8, .int (cntL (fillG z.2.2.2.2.2.2.2.1 z.2.2.2.2.2.1) 64)), (7, .int (nI (sizeN (n / 12)))), (6, .int (z.2.2.2.2.2.2.2.1 (n % z.2.2.2.2.2.1))), (5, .int (nI (n % z.2.2.2.2.2.1))), (4, .int (sumW z.2.2.2.2.2.2.2.1 z.2.2.2.2.2.1)), (3, .int (nI z.2.2.2.2.2.1)), (0, .ref x0), (1, .int (nI how)), (2, .int (nI n))]) hx hb dL_weights_257 hl (by decide) rfl (fun ls hl => ?_)
          refine lv_aload_n hx hb dL_weights_259 rfl (lv_at hl 7 rfl) ?_
          refine lq_v (B0 := (LB cI cC cJ cZ cQ x0 a0 a1 a2 a3 a4 a5 a6 v0 v1 t0 t1 h0 u0 u1 pa rg z nx cnt S wq2 hv hk hc)) (B1 := (LB cI cC cJ cZ cQ x0 a0 a1 a2 a3 a4 a5 a6 v0 v1 t0 t1 h0 u0 u1 pa rg (z.1, z.2.1, z.2.2.1, z.2.2.2.1, z.2.2.2.2.1, z.2.2.2.2.2.1, z.2.2.2.2.2.2.1, srtG z.2.2.2.2.2.2.2.1 (z.2.2.2.2.2.1 - 1), z.2.2.2.2.2.2.2.2) ((nx + 1) % 6) (min (cnt + 1) 6) (updS S nx z) wq2 hv hk hc)) (U := [0, 1, 2, 3, 4, 5, 6, 7]) (isC := [0, 1, 2, 3, 4]) (isR := [5, 6, 7]) (As := []) (rest := []) ⟨hx, hb, hml, hown, hts⟩ (kX7_sortWeights l D H.size cI cC cJ cZ cQ x0 v0 t0 h0 u0 a0 a1 a2 a3 a4 a5 a6 z v1 nx cnt pa S rg hnx hcnt hrg hwz hw1) (cwV 0 hts gL_weights_X7_sortWeights rfl rfl rfl (by decide +kernel) ⟨Nat.le_of_ble_eq_true rfl, Nat.le_of_ble_eq_true rfl⟩) hP hD hK hS hA hN (by decide) rfl rfl rfl 0 7 rfl rfl rfl rfl hl.1 rfl (Nat.le_of_ble_eq_true rfl) dL_weights_260 ⟨Nat.le_of_ble_eq_true rfl, Nat.le_of_ble_eq_true rfl⟩ (fun H locs hP hD hS => ?_)
          have hP : va_P D vwCl (fmB (LB cI cC cJ cZ cQ x0 a0 a1 a2 a3 a4 a5 a6 v0 v1 t0 t1 h0 u0 u1 pa rg (z.1, z.2.1, z.2.2.1, z.2.2.2.1, z.2.2.2.2.1, z.2.2.2.2.2.1, z.2.2.2.2.2.2.1, srtG z.2.2.2.2.2.2.2.1 (z.2.2.2.2.2.1 - 1), z.2.2.2.2.2.2.2.2) ((nx + 1) % 6) (min (cnt + 1) 6) (updS S nx z) wq2 hv hk hc) [0, 1, 2, 3, 4, 5, 6, 7]) H := hP
          have hD : va_D A (fmB (LB cI cC cJ cZ cQ x0 a0 a1 a2 a3 a4 a5 a6 v0 v1 t0 t1 h0 u0 u1 pa rg (z.1, z.2.1, z.2.2.1, z.2.2.2.1, z.2.2.2.2.1, z.2.2.2.2.2.1, z.2.2.2.2.2.2.1, srtG z.2.2.2.2.2.2.2.1 (z.2.2.2.2.2.1 - 1), z.2.2.2.2.2.2.2.2) ((nx + 1) % 6) (min (cnt + 1) 6) (updS S nx z) wq2 hv hk hc) [0, 1, 2, 3, 4, 5, 6, 7]) := hD
          obtain ⟨z1, hz1⟩ : ∃ q9 : StV, q9 = (z.1, z.2.1, z.2.2.1, z.2.2.2.1, z.2.2.2.2.1, z.2.2.2.2.2.1, z.2.2.2.2.2.2.1, srtG z.2.2.2.2.2.2.2.1 (z.2.2.2.2.2.1 - 1), z.2.2.2.2.2.2.2.2) := ⟨_, rfl⟩
          rw [← hz1] at hP hD
          have hP : va_P D vwCl (fmB (LB cI cC cJ cZ cQ x0 a0 a1 a2 a3 a4 a5 a6 v0 v1 t0 t1 h0 u0 u1 pa rg z1 ((nx + 1) % 6) (min (cnt + 1) 6) (updS S nx z) wq2 hv hk hc) [0, 1, 2, 3, 4, 5, 6, 7]) H := hP
          have hD : va_D A (fmB (LB cI cC cJ cZ cQ x0 a0 a1 a2 a3 a4 a5 a6 v0 v1 t0 t1 h0 u0 u1 pa rg z1 ((nx + 1) % 6) (min (cnt + 1) 6) (updS S nx z) wq2 hv hk hc) [0, 1, 2, 3, 4, 5, 6, 7]) := hD
          have hz9 : zI z1 := by subst hz1; exact zI_w hI.1 ⟨hw1, hwz⟩ (srt_rg hw1 hff)
          obtain ⟨hq1, hq2, hq3⟩ := zI_b hz9
          have hff1 := zI_f hz9
          have hhf1 := zI_hf hz9
          have e6 : z1.2.2.2.2.2.1 = z.2.2.2.2.2.1 := by subst hz1; rfl
          have e8 : z1.2.2.2.2.2.2.2.1 = srtG z.2.2.2.2.2.2.2.1 (z.2.2.2.2.2.1 - 1) := by subst hz1; rfl
          have hmp := misp_le z.2.2.2.2.2.2.2.1 z.2.2.2.2.2.1 z.2.2.2.2.2.1
          refine lv_istore (lv' := [(10, .int (nI (misp z.2.2.2.2.2.2.2.1 z.2.2.2.2.2.1 z.2.2.2.2.2.1))), (9, .int (nI (lmGo (fillG z.2.2.2.2.2.2.2.1 z.2.2.2.2.2.1) 4095 1))), (8, .int (cntL (fillG z.2.2.2.2.2.2.2.1 z.2.2.2.2.2.1) 64)), (7, .int (nI (sizeN (n / 12)))), (6, .int (z.2.2.2.2.2.2.2.1 (n % z.2.2.2.2.2.1))), (5, .int (nI (n % z.2.2.2.2.2.1))), (4, .int (sumW z.2.2.2.2.2.2.2.1 z.2.2.2.2.2.1)), (3, .int (nI z.2.2.2.2.2.1)), (0, .ref x0), (1, .int (nI how)), (2, .int (nI n))]) hx hb dL_weights_263 hl (by decide) rfl (fun ls hl => ?_)
          refine lv_iload hx hb dL_weights_265 (lv_at hl 0 rfl) ?_
          refine lv_if_lt (tgt := 313) hx hb dL_weights_267 (by decide) (fun c_267 => ?_) (fun c_267 => ?_)
          · have c_267 : (misp z.2.2.2.2.2.2.2.1 z.2.2.2.2.2.1 z.2.2.2.2.2.1) < 0 := (nI_ltI (a := (misp z.2.2.2.2.2.2.2.1 z.2.2.2.2.2.1 z.2.2.2.2.2.1)) (b := 0) (by omega) (by omega)).mp c_267
            omega
          · have c_267 : ¬ (misp z.2.2.2.2.2.2.2.1 z.2.2.2.2.2.1 z.2.2.2.2.2.1) < 0 := fun h => c_267 ((nI_ltI (a := (misp z.2.2.2.2.2.2.2.1 z.2.2.2.2.2.1 z.2.2.2.2.2.1)) (b := 0) (by omega) (by omega)).mpr h)
            refine lv_iload hx hb dL_weights_270 (lv_at hl 0 rfl) ?_
            refine lv_iload_n hx hb dL_weights_272 rfl (lv_at hl 7 rfl) ?_
            refine lv_icmp_gt (tgt := 313) hx hb dL_weights_273 (by decide) (fun c_273 => ?_) (fun c_273 => ?_)
            · have c_273 : z.2.2.2.2.2.1 < (misp z.2.2.2.2.2.2.2.1 z.2.2.2.2.2.1 z.2.2.2.2.2.1) := (nI_ltI (a := z.2.2.2.2.2.1) (b := (misp z.2.2.2.2.2.2.2.1 z.2.2.2.2.2.1 z.2.2.2.2.2.1)) (by omega) (by omega)).mp c_273
              omega
            · have c_273 : ¬ z.2.2.2.2.2.1 < (misp z.2.2.2.2.2.2.2.1 z.2.2.2.2.2.1 z.2.2.2.2.2.1) := fun h => c_273 ((nI_ltI (a := z.2.2.2.2.2.1) (b := (misp z.2.2.2.2.2.2.2.1 z.2.2.2.2.2.1 z.2.2.2.2.2.1)) (by omega) (by omega)).mpr h)
              refine lv_iload hx hb dL_weights_276 (lv_at hl 0 rfl) ?_
              refine lv_iconst (v := 1) hx hb dL_weights_278 (by decide) ?_
              refine lv_icmp_eq (tgt := 313) hx hb dL_weights_279 (by decide) (fun c_279 => ?_) (fun c_279 => ?_)
              · have c_279 : (misp z.2.2.2.2.2.2.2.1 z.2.2.2.2.2.1 z.2.2.2.2.2.1) = 1 := (nI_eq (a := (misp z.2.2.2.2.2.2.2.1 z.2.2.2.2.2.1 z.2.2.2.2.2.1)) (b := 1) (by omega) (by omega)).mp c_279
                exact absurd c_279 (misp_ne _ _)
              · have c_279 : ¬ (misp z.2.2.2.2.2.2.2.1 z.2.2.2.2.2.1 z.2.2.2.2.2.1) = 1 := fun h => c_279 ((nI_eq (a := (misp z.2.2.2.2.2.2.2.1 z.2.2.2.2.2.1 z.2.2.2.2.2.1)) (b := 1) (by omega) (by omega)).mpr h)
                refine lv_aload_n hx hb dL_weights_282 rfl (lv_at hl 8 rfl) ?_
                refine lq_v (B0 := (LB cI cC cJ cZ cQ x0 a0 a1 a2 a3 a4 a5 a6 v0 v1 t0 t1 h0 u0 u1 pa rg z1 ((nx + 1) % 6) (min (cnt + 1) 6) (updS S nx z) wq2 hv hk hc)) (B1 := (LB cI cC cJ cZ cQ x0 a0 a1 a2 a3 a4 a5 a6 v0 v1 t0 t1 h0 u0 u1 pa rg z1 ((nx + 1) % 6) (min (cnt + 1) 6) (updS S nx z) wq2 hv hk hc)) (U := [0, 1, 2, 3, 4, 5, 6, 7]) (isC := [0, 1]) (isR := [2, 3, 4, 5, 6, 7]) (As := []) (rest := []) ⟨hx, hb, hml, hown, hts⟩ (kX7_total l D H.size cI cC cJ cZ cQ x0 v0 t0 h0 u0 a0 a1 a2 a3 a4 a5 a6 z1 hq2) (cwV 0 hts gL_weights_X7_total rfl rfl rfl (by decide +kernel) ⟨Nat.le_of_ble_eq_true rfl, Nat.le_of_ble_eq_true rfl⟩) hP hD hK hS hA hN (by decide) rfl rfl rfl 0 7 rfl rfl rfl rfl hl.1 rfl (Nat.le_of_ble_eq_true rfl) dL_weights_283 ⟨Nat.le_of_ble_eq_true rfl, Nat.le_of_ble_eq_true rfl⟩ (fun H locs hP hD hS => ?_)
                refine k_topi (y := sumW z.2.2.2.2.2.2.2.1 z.2.2.2.2.2.1) (by rw [e6, e8]; exact (srt_same hw1 hff).1) ?_
                refine lv_iload hx hb dL_weights_286 (lv_at hl 6 rfl) ?_
                refine lv_icmp_ne (tgt := 313) hx hb dL_weights_288 (by decide) (fun c_288 => ?_) (fun c_288 => ?_)
                · exact absurd rfl c_288
                · refine lv_aload_n hx hb dL_weights_291 rfl (lv_at hl 8 rfl) ?_
                  refine lq_v (B0 := (LB cI cC cJ cZ cQ x0 a0 a1 a2 a3 a4 a5 a6 v0 v1 t0 t1 h0 u0 u1 pa rg z1 ((nx + 1) % 6) (min (cnt + 1) 6) (updS S nx z) wq2 hv hk hc)) (B1 := (LB cI cC cJ cZ cQ x0 a0 a1 a2 a3 a4 a5 a6 v0 v1 t0 t1 h0 u0 u1 pa rg z1 ((nx + 1) % 6) (min (cnt + 1) 6) (updS S nx z) (fillG z1.2.2.2.2.2.2.2.1 z1.2.2.2.2.2.1) hv hk hc)) (U := [0, 1, 2, 3, 4, 5, 6, 7]) (isC := [0, 1, 7]) (isR := [2, 3, 4, 5, 6]) (As := []) (rest := []) ⟨hx, hb, hml, hown, hts⟩ (kX7_sums l D H.size cI cC cJ cZ cQ x0 v0 t0 h0 u0 a0 a1 a2 a3 a4 a5 a6 z1 u1 wq2 hq2 hhf1) (cwV 0 hts gL_weights_X7_sums rfl rfl rfl (by decide +kernel) ⟨Nat.le_of_ble_eq_true rfl, Nat.le_of_ble_eq_true rfl⟩) hP hD hK hS hA hN (by decide) rfl rfl rfl 0 7 rfl rfl rfl rfl hl.1 rfl (Nat.le_of_ble_eq_true rfl) dL_weights_292 ⟨Nat.le_of_ble_eq_true rfl, Nat.le_of_ble_eq_true rfl⟩ (fun H locs hP hD hS => ?_)
                  have hP : va_P D vwCl (fmB (LB cI cC cJ cZ cQ x0 a0 a1 a2 a3 a4 a5 a6 v0 v1 t0 t1 h0 u0 u1 pa rg z1 ((nx + 1) % 6) (min (cnt + 1) 6) (updS S nx z) (fillG z1.2.2.2.2.2.2.2.1 z1.2.2.2.2.2.1) hv hk hc) [0, 1, 2, 3, 4, 5, 6, 7]) H := hP
                  have hD : va_D A (fmB (LB cI cC cJ cZ cQ x0 a0 a1 a2 a3 a4 a5 a6 v0 v1 t0 t1 h0 u0 u1 pa rg z1 ((nx + 1) % 6) (min (cnt + 1) 6) (updS S nx z) (fillG z1.2.2.2.2.2.2.2.1 z1.2.2.2.2.2.1) hv hk hc) [0, 1, 2, 3, 4, 5, 6, 7]) := hD
                  obtain ⟨wq3, hwq3⟩ : ∃ q9 : Nat → Int64, q9 = (fillG z1.2.2.2.2.2.2.2.1 z1.2.2.2.2.2.1) := ⟨_, rfl⟩
                  rw [← hwq3] at hP hD
                  have hP : va_P D vwCl (fmB (LB cI cC cJ cZ cQ x0 a0 a1 a2 a3 a4 a5 a6 v0 v1 t0 t1 h0 u0 u1 pa rg z1 ((nx + 1) % 6) (min (cnt + 1) 6) (updS S nx z) wq3 hv hk hc) [0, 1, 2, 3, 4, 5, 6, 7]) H := hP
                  have hD : va_D A (fmB (LB cI cC cJ cZ cQ x0 a0 a1 a2 a3 a4 a5 a6 v0 v1 t0 t1 h0 u0 u1 pa rg z1 ((nx + 1) % 6) (min (cnt + 1) 6) (updS S nx z) wq3 hv hk hc) [0, 1, 2, 3, 4, 5, 6, 7]) := hD
                  refine k_topi (y := cntL (fillG z.2.2.2.2.2.2.2.1 z.2.2.2.2.2.1) 64) (by rw [e6, e8]; exact (srt_same hw1 hff).2.1) ?_
                  refine lv_iload hx hb dL_weights_295 (lv_at hl 2 rfl) ?_
                  refine lv_icmp_ne (tgt := 313) hx hb dL_weights_297 (by decide) (fun c_297 => ?_) (fun c_297 => ?_)
                  · exact absurd rfl c_297
                  · refine lv_aload_n hx hb dL_weights_300 rfl (lv_at hl 8 rfl) ?_
                    refine lq_v (B0 := (LB cI cC cJ cZ cQ x0 a0 a1 a2 a3 a4 a5 a6 v0 v1 t0 t1 h0 u0 u1 pa rg z1 ((nx + 1) % 6) (min (cnt + 1) 6) (updS S nx z) wq3 hv hk hc)) (B1 := (LB cI cC cJ cZ cQ x0 a0 a1 a2 a3 a4 a5 a6 v0 v1 t0 t1 h0 u0 u1 pa rg z1 ((nx + 1) % 6) (min (cnt + 1) 6) (updS S nx z) (fillG z1.2.2.2.2.2.2.2.1 z1.2.2.2.2.2.1) hv hk hc)) (U := [0, 1, 2, 3, 4, 5, 6, 7]) (isC := [0, 1, 7]) (isR := [2, 3, 4, 5, 6]) (As := []) (rest := []) ⟨hx, hb, hml, hown, hts⟩ (kX7_leastMissing l D H.size cI cC cJ cZ cQ x0 v0 t0 h0 u0 a0 a1 a2 a3 a4 a5 a6 z1 u1 wq3 hq2 hhf1) (cwV 0 hts gL_weights_X7_leastMissing rfl rfl rfl (by decide +kernel) ⟨Nat.le_of_ble_eq_true rfl, Nat.le_of_ble_eq_true rfl⟩) hP hD hK hS hA hN (by decide) rfl rfl rfl 0 7 rfl rfl rfl rfl hl.1 rfl (Nat.le_of_ble_eq_true rfl) dL_weights_301 ⟨Nat.le_of_ble_eq_true rfl, Nat.le_of_ble_eq_true rfl⟩ (fun H locs hP hD hS => ?_)
                    have hP : va_P D vwCl (fmB (LB cI cC cJ cZ cQ x0 a0 a1 a2 a3 a4 a5 a6 v0 v1 t0 t1 h0 u0 u1 pa rg z1 ((nx + 1) % 6) (min (cnt + 1) 6) (updS S nx z) (fillG z1.2.2.2.2.2.2.2.1 z1.2.2.2.2.2.1) hv hk hc) [0, 1, 2, 3, 4, 5, 6, 7]) H := hP
                    have hD : va_D A (fmB (LB cI cC cJ cZ cQ x0 a0 a1 a2 a3 a4 a5 a6 v0 v1 t0 t1 h0 u0 u1 pa rg z1 ((nx + 1) % 6) (min (cnt + 1) 6) (updS S nx z) (fillG z1.2.2.2.2.2.2.2.1 z1.2.2.2.2.2.1) hv hk hc) [0, 1, 2, 3, 4, 5, 6, 7]) := hD
                    obtain ⟨wq4, hwq4⟩ : ∃ q9 : Nat → Int64, q9 = (fillG z1.2.2.2.2.2.2.2.1 z1.2.2.2.2.2.1) := ⟨_, rfl⟩
                    rw [← hwq4] at hP hD
                    have hP : va_P D vwCl (fmB (LB cI cC cJ cZ cQ x0 a0 a1 a2 a3 a4 a5 a6 v0 v1 t0 t1 h0 u0 u1 pa rg z1 ((nx + 1) % 6) (min (cnt + 1) 6) (updS S nx z) wq4 hv hk hc) [0, 1, 2, 3, 4, 5, 6, 7]) H := hP
                    have hD : va_D A (fmB (LB cI cC cJ cZ cQ x0 a0 a1 a2 a3 a4 a5 a6 v0 v1 t0 t1 h0 u0 u1 pa rg z1 ((nx + 1) % 6) (min (cnt + 1) 6) (updS S nx z) wq4 hv hk hc) [0, 1, 2, 3, 4, 5, 6, 7]) := hD
                    refine k_topi (y := nI (lmGo (fillG z.2.2.2.2.2.2.2.1 z.2.2.2.2.2.1) 4095 1)) (by rw [e6, e8]; exact congrArg nI (srt_same hw1 hff).2.2) ?_
                    refine lv_iload hx hb dL_weights_304 (lv_at hl 1 rfl) ?_
                    refine lv_icmp_ne (tgt := 313) hx hb dL_weights_306 (by decide) (fun c_306 => ?_) (fun c_306 => ?_)
                    · exact absurd rfl c_306
                    · refine lv_iconst (v := 1) hx hb dL_weights_309 (by decide) ?_
                      refine lv_goto (tgt := 314) hx hb dL_weights_310 (by decide) ?_
                      refine lv_istore (lv' := [(11, .int 1), (10, .int (nI (misp z.2.2.2.2.2.2.2.1 z.2.2.2.2.2.1 z.2.2.2.2.2.1))), (9, .int (nI (lmGo (fillG z.2.2.2.2.2.2.2.1 z.2.2.2.2.2.1) 4095 1))), (8, .int (cntL (fillG z.2.2.2.2.2.2.2.1 z.2.2.2.2.2.1) 64)), (7, .int (nI (sizeN (n / 12)))), (6, .int (z.2.2.2.2.2.2.2.1 (n % z.2.2.2.2.2.1))), (5, .int (nI (n % z.2.2.2.2.2.1))), (4, .int (sumW z.2.2.2.2.2.2.2.1 z.2.2.2.2.2.1)), (3, .int (nI z.2.2.2.2.2.1)), (0, .ref x0), (1, .int (nI how)), (2, .int (nI n))]) hx hb dL_weights_314 hl (by decide) rfl (fun ls hl => ?_)
                      refine lv_iconst (v := 1) hx hb dL_weights_316 (by decide) ?_
                      refine lv_istore (lv' := [(12, .int 1), (11, .int 1), (10, .int (nI (misp z.2.2.2.2.2.2.2.1 z.2.2.2.2.2.1 z.2.2.2.2.2.1))), (9, .int (nI (lmGo (fillG z.2.2.2.2.2.2.2.1 z.2.2.2.2.2.1) 4095 1))), (8, .int (cntL (fillG z.2.2.2.2.2.2.2.1 z.2.2.2.2.2.1) 64)), (7, .int (nI (sizeN (n / 12)))), (6, .int (z.2.2.2.2.2.2.2.1 (n % z.2.2.2.2.2.1))), (5, .int (nI (n % z.2.2.2.2.2.1))), (4, .int (sumW z.2.2.2.2.2.2.2.1 z.2.2.2.2.2.1)), (3, .int (nI z.2.2.2.2.2.1)), (0, .ref x0), (1, .int (nI how)), (2, .int (nI n))]) hx hb dL_weights_317 hl (by decide) rfl (fun ls hl => ?_)
                      have J319 : ∀ (fuel : Nat) (k : Nat) (hk1 : 1 ≤ k) (hj0 : k ≤ z.2.2.2.2.2.1) (hm : z.2.2.2.2.2.1 - k < fuel) (H : Heap) (locs : List Loc) (hP : va_P D vwCl (fmB (LB cI cC cJ cZ cQ x0 a0 a1 a2 a3 a4 a5 a6 v0 v1 t0 t1 h0 u0 u1 pa rg z1 ((nx + 1) % 6) (min (cnt + 1) 6) (updS S nx z) wq4 hv hk hc) [0, 1, 2, 3, 4, 5, 6, 7]) H) (hD : va_D A (fmB (LB cI cC cJ cZ cQ x0 a0 a1 a2 a3 a4 a5 a6 v0 v1 t0 t1 h0 u0 u1 pa rg z1 ((nx + 1) % 6) (min (cnt + 1) 6) (updS S nx z) wq4 hv hk hc) [0, 1, 2, 3, 4, 5, 6, 7])) (hS : va_S A s.heap H locs) (ls : Array Slot) (hl : lv_has ls 13 [(12, .int (nI k)), (11, .int 1), (10, .int (nI (misp z.2.2.2.2.2.2.2.1 z.2.2.2.2.2.1 z.2.2.2.2.2.1))), (9, .int (nI (lmGo (fillG z.2.2.2.2.2.2.2.1 z.2.2.2.2.2.1) 4095 1))), (8, .int (cntL (fillG z.2.2.2.2.2.2.2.1 z.2.2.2.2.2.1) 64)), (7, .int (nI (sizeN (n / 12)))), (6, .int (z.2.2.2.2.2.2.2.1 (n % z.2.2.2.2.2.1))), (5, .int (nI (n % z.2.2.2.2.2.1))), (4, .int (sumW z.2.2.2.2.2.2.2.1 z.2.2.2.2.2.1)), (3, .int (nI z.2.2.2.2.2.1)), (0, .ref x0), (1, .int (nI how)), (2, .int (nI n))]), W p l e rmmL_weights4 s m args below meth c H locs 0 0 (MQ below (oQi D (fun (r9 : Int32) (u9 : OS) => 1 = r9 ∧ oI u9.1 u9.2.1 u9.2.2.1 u9.2.2.2.1 ∧ u9.2.1 = (nx + 1) % 6 ∧ u9.2.2.1 = min (cnt + 1) 6 ∧ u9.2.2.2.1 = updS S nx z) (fun (u9 : OS) => fmB (LB cI cC cJ cZ cQ x0 a0 a1 a2 a3 a4 a5 a6 v0 v1 t0 t1 h0 u0 u1 pa rg u9.1 u9.2.1 u9.2.2.1 u9.2.2.2.1 u9.2.2.2.2.1 u9.2.2.2.2.2.1 u9.2.2.2.2.2.2.1 u9.2.2.2.2.2.2.2) [0, 1, 2, 3, 4, 5, 6, 7]) A) args s 2 12 A) (F0 m 319 ls []) := by
                        intro fuel
                        induction fuel with
                        | zero => intro k hk1 hj0 hm; exact absurd hm (Nat.not_lt_zero _)
                        | succ fuel ih319 =>
                          intro k hk1 hj0 hm H locs hP hD hS ls hl
                          refine lv_iload hx hb dL_weights_319 (lv_at hl 0 rfl) ?_
                          refine lv_iload_n hx hb dL_weights_321 rfl (lv_at hl 9 rfl) ?_
                          refine lv_icmp_ge (tgt := 362) hx hb dL_weights_322 (by decide) (fun c_322 => ?_) (fun c_322 => ?_)
                          · have c_322 : z.2.2.2.2.2.1 ≤ k := (nI_leI (a := z.2.2.2.2.2.1) (b := k) (by omega) (by omega)).mp c_322
                            refine lv_iload hx hb dL_weights_362 (lv_at hl 1 rfl) ?_
                            refine W.widen (k := 2) (n := 12) (Nat.le_of_ble_eq_true rfl) (Nat.le_of_ble_eq_true rfl) ?_
                            exact kr_oz (u := (z1, (nx + 1) % 6, min (cnt + 1) 6, updS S nx z, wq4, hv, hk, hc)) (v := 1) hx hb hr hlocks rfl hP hD hS ⟨rfl, oI_push hI hz9, rfl, rfl, rfl⟩ dL_weights_364
                          · have c_322 : ¬ z.2.2.2.2.2.1 ≤ k := fun h => c_322 ((nI_leI (a := z.2.2.2.2.2.1) (b := k) (by omega) (by omega)).mpr h)
                            refine lv_iload hx hb dL_weights_325 (lv_at hl 1 rfl) ?_
                            refine lv_if_eq (tgt := 362) hx hb dL_weights_327 (by decide) (fun h => absurd h (by decide)) (fun _ => ?_)
                            refine lv_aload_n hx hb dL_weights_330 rfl (lv_at hl 10 rfl) ?_
                            refine lv_iconst (v := 0) hx hb dL_weights_331 (by decide) ?_
                            refine lv_iload hx hb dL_weights_332 (lv_at hl 0 rfl) ?_
                            refine lv_iconst (v := 1) hx hb dL_weights_334 (by decide) ?_
                            refine lv_isub hx hb dL_weights_335 ?_
                            refine k_topi (y := nI (k - 1)) (pk_sub (a := k) (b := 1) (by omega)) ?_
                            refine lq_s (B0 := (LB cI cC cJ cZ cQ x0 a0 a1 a2 a3 a4 a5 a6 v0 v1 t0 t1 h0 u0 u1 pa rg z1 ((nx + 1) % 6) (min (cnt + 1) 6) (updS S nx z) wq4 hv hk hc)) (B1 := (LB cI cC cJ cZ cQ x0 a0 a1 a2 a3 a4 a5 a6 v0 v1 t0 t1 h0 u0 u1 pa rg z1 ((nx + 1) % 6) (min (cnt + 1) 6) (updS S nx z) wq4 hv hk hc)) (U := [0, 1, 2, 3, 4, 5, 6, 7]) (isC := [0, 1]) (isR := [2, 3, 4, 5, 6, 7]) (As := [.ref x0, .int 0, .int (nI (k - 1))]) (rest := []) ⟨hx, hb, hml, hown, hts⟩ (kL_weight_ok l D H.size cI cC cJ cZ cQ x0 v0 t0 h0 u0 a0 a1 a2 a3 a4 a5 a6 z1 (k - 1) hq2 (by omega)) (vx_cwSW 3 hts gL_weights_L_ask rfl rfl rfl (by decide +kernel) ⟨Nat.le_of_ble_eq_true rfl, Nat.le_of_ble_eq_true rfl⟩) hP hD hK hS hA hN (by decide) rfl rfl rfl rfl hl.1 rfl (Nat.le_of_ble_eq_true rfl) dL_weights_336 ⟨Nat.le_of_ble_eq_true rfl, Nat.le_of_ble_eq_true rfl⟩ (fun H locs hP hD hS => ?_)
                            refine lv_aload_n hx hb dL_weights_339 rfl (lv_at hl 10 rfl) ?_
                            refine lv_iconst (v := 0) hx hb dL_weights_340 (by decide) ?_
                            refine lv_iload hx hb dL_weights_341 (lv_at hl 0 rfl) ?_
                            refine lq_s (B0 := (LB cI cC cJ cZ cQ x0 a0 a1 a2 a3 a4 a5 a6 v0 v1 t0 t1 h0 u0 u1 pa rg z1 ((nx + 1) % 6) (min (cnt + 1) 6) (updS S nx z) wq4 hv hk hc)) (B1 := (LB cI cC cJ cZ cQ x0 a0 a1 a2 a3 a4 a5 a6 v0 v1 t0 t1 h0 u0 u1 pa rg z1 ((nx + 1) % 6) (min (cnt + 1) 6) (updS S nx z) wq4 hv hk hc)) (U := [0, 1, 2, 3, 4, 5, 6, 7]) (isC := [0, 1]) (isR := [2, 3, 4, 5, 6, 7]) (As := [.ref x0, .int 0, .int (nI k)]) (rest := [.int (z1.2.2.2.2.2.2.2.1 (k - 1))]) ⟨hx, hb, hml, hown, hts⟩ (kL_weight_ok l D H.size cI cC cJ cZ cQ x0 v0 t0 h0 u0 a0 a1 a2 a3 a4 a5 a6 z1 k hq2 (by omega)) (vx_cwSW 3 hts gL_weights_L_ask rfl rfl rfl (by decide +kernel) ⟨Nat.le_of_ble_eq_true rfl, Nat.le_of_ble_eq_true rfl⟩) hP hD hK hS hA hN (by decide) rfl rfl rfl rfl hl.1 rfl (Nat.le_of_ble_eq_true rfl) dL_weights_343 ⟨Nat.le_of_ble_eq_true rfl, Nat.le_of_ble_eq_true rfl⟩ (fun H locs hP hD hS => ?_)
                            refine lv_icmp_lt (tgt := 353) hx hb dL_weights_346 (by decide) (fun c_346 => ?_) (fun c_346 => ?_)
                            · exact absurd c_346 (by subst hz1; exact srt_dn hk1 (by omega))
                            · refine lv_iconst (v := 1) hx hb dL_weights_349 (by decide) ?_
                              refine lv_goto (tgt := 354) hx hb dL_weights_350 (by decide) ?_
                              refine lv_istore (lv' := [(11, .int 1), (12, .int (nI k)), (10, .int (nI (misp z.2.2.2.2.2.2.2.1 z.2.2.2.2.2.1 z.2.2.2.2.2.1))), (9, .int (nI (lmGo (fillG z.2.2.2.2.2.2.2.1 z.2.2.2.2.2.1) 4095 1))), (8, .int (cntL (fillG z.2.2.2.2.2.2.2.1 z.2.2.2.2.2.1) 64)), (7, .int (nI (sizeN (n / 12)))), (6, .int (z.2.2.2.2.2.2.2.1 (n % z.2.2.2.2.2.1))), (5, .int (nI (n % z.2.2.2.2.2.1))), (4, .int (sumW z.2.2.2.2.2.2.2.1 z.2.2.2.2.2.1)), (3, .int (nI z.2.2.2.2.2.1)), (0, .ref x0), (1, .int (nI how)), (2, .int (nI n))]) hx hb dL_weights_354 hl (by decide) rfl (fun ls hl => ?_)
                              refine lv_iinc (v := nI (k + 1)) (lv' := [(12, .int (nI (k + 1))), (11, .int 1), (10, .int (nI (misp z.2.2.2.2.2.2.2.1 z.2.2.2.2.2.1 z.2.2.2.2.2.1))), (9, .int (nI (lmGo (fillG z.2.2.2.2.2.2.2.1 z.2.2.2.2.2.1) 4095 1))), (8, .int (cntL (fillG z.2.2.2.2.2.2.2.1 z.2.2.2.2.2.1) 64)), (7, .int (nI (sizeN (n / 12)))), (6, .int (z.2.2.2.2.2.2.2.1 (n % z.2.2.2.2.2.1))), (5, .int (nI (n % z.2.2.2.2.2.1))), (4, .int (sumW z.2.2.2.2.2.2.2.1 z.2.2.2.2.2.1)), (3, .int (nI z.2.2.2.2.2.1)), (0, .ref x0), (1, .int (nI how)), (2, .int (nI n))]) hx hb dL_weights_356 hl (k := 1) rfl (by exact k_inc k) (by decide) rfl (fun ls hl => ?_)
                              refine lv_goto (tgt := 319) hx hb dL_weights_359 (by decide) ?_
                              exact ih319 (k + 1) (by first | assumption | omega) (by first | assumption | omega) (by omega) _ _ hP hD hS _ (lv_sub hl [0, 1, 2, 3, 4, 5, 6, 7, 8, 9, 10, 11, 12] rfl)
                      exact J319 (z.2.2.2.2.2.1 - 1 + 1) 1 (by first | assumption | omega) (by first | assumption | omega) (Nat.lt_succ_self _) _ _ hP hD hS _ (lv_sub hl [0, 1, 2, 3, 4, 5, 6, 7, 8, 9, 10, 11, 12] rfl)
        · have c_179 : ¬ z.2.2.2.2.2.1 ≤ 1 := fun h => c_179 ((nI_leI (a := z.2.2.2.2.2.1) (b := 1) (by omega) (by omega)).mpr h)
          omega
    · have c_87 : how = 1 := (nI_eq (a := how) (b := 1) (by omega) (by omega)).mp c_87
      omega
  · have c_35 : how = 0 := (nI_eq (a := how) (b := 0) (by omega) (by omega)).mp c_35
    omega

abbrev rmmL_weights : Room := { frames := 9, cells := 2, slots := 12, locals := 170 }
theorem mL_weights (l : Launch) (hst : l.stackTraces = false) (D : va_G) (sz : Nat) (cI : ClassId) (cC : ClassId) (cJ : ClassId) (cZ : ClassId) (cQ : ClassId) (x0 : Nat) (a0 : Nat) (a1 : Nat) (a2 : Nat) (a3 : Nat) (a4 : Nat) (a5 : Nat) (a6 : Nat) (v0 : Nat) (v1 : Nat) (t0 : Nat) (t1 : Nat) (h0 : Nat) (u0 : Nat) (u1 : Nat) (pa : Nat → Nat) (rg : Nat → Option Nat) (z : StV) (nx : Nat) (cnt : Nat) (S : Nat → StV) (wd : Nat → Int64) (hv : Int32) (hk : Int32) (hc : Int32) (how : Nat) (n : Nat) (hI : oI z nx cnt S) (hrg : rgOK rg pa) (hn : n < 2147483648) (hh : how ≤ 2) : Met l yL_weights wsL_weights rmmL_weights (va_Pc [.ref x0, .int (nI how), .int (nI n)] (oPre D sz (fmB (LB cI cC cJ cZ cQ x0 a0 a1 a2 a3 a4 a5 a6 v0 v1 t0 t1 h0 u0 u1 pa rg z nx cnt S wd hv hk hc) [0, 1, 2, 3, 4, 5, 6, 7]) (kT cI cC cJ cZ cQ))) (oQi D (fun (r9 : Int32) (u9 : OS) => 1 = r9 ∧ oI u9.1 u9.2.1 u9.2.2.1 u9.2.2.2.1 ∧ u9.2.1 = (nx + 1) % 6 ∧ u9.2.2.1 = min (cnt + 1) 6 ∧ u9.2.2.2.1 = updS S nx z) (fun (u9 : OS) => fmB (LB cI cC cJ cZ cQ x0 a0 a1 a2 a3 a4 a5 a6 v0 v1 t0 t1 h0 u0 u1 pa rg u9.1 u9.2.1 u9.2.2.1 u9.2.2.2.1 u9.2.2.2.2.1 u9.2.2.2.2.2.1 u9.2.2.2.2.2.2.1 u9.2.2.2.2.2.2.2) [0, 1, 2, 3, 4, 5, 6, 7]) (va_A (fmB (LB cI cC cJ cZ cQ x0 a0 a1 a2 a3 a4 a5 a6 v0 v1 t0 t1 h0 u0 u1 pa rg z nx cnt S wd hv hk hc) [0, 1, 2, 3, 4, 5, 6, 7]) sz)) 2 12 (va_A (fmB (LB cI cC cJ cZ cQ x0 a0 a1 a2 a3 a4 a5 a6 v0 v1 t0 t1 h0 u0 u1 pa rg z nx cnt S wd hv hk hc) [0, 1, 2, 3, 4, 5, 6, 7]) sz) := by
  have hb9 := zI_b hI.1
  rcases (show how = 0 ∨ (how = 1 ∧ z.2.2.2.2.2.1 < 12) ∨ (how = 2 ∧ 2 ≤ z.2.2.2.2.2.1) ∨ (how = 1 ∧ 12 ≤ z.2.2.2.2.2.1) ∨ (how = 2 ∧ z.2.2.2.2.2.1 ≤ 1) from by omega) with q | q | q | q | q
  · exact mL_weights0 l hst D sz cI cC cJ cZ cQ x0 a0 a1 a2 a3 a4 a5 a6 v0 v1 t0 t1 h0 u0 u1 pa rg z nx cnt S wd hv hk hc how n hI hrg hn q
  · exact mL_weights1 l hst D sz cI cC cJ cZ cQ x0 a0 a1 a2 a3 a4 a5 a6 v0 v1 t0 t1 h0 u0 u1 pa rg z nx cnt S wd hv hk hc how n hI hrg hn q.1 q.2
  · exact mL_weights2 l hst D sz cI cC cJ cZ cQ x0 a0 a1 a2 a3 a4 a5 a6 v0 v1 t0 t1 h0 u0 u1 pa rg z nx cnt S wd hv hk hc how n hI hrg hn q.1 q.2
  · exact mL_weights3 l hst D sz cI cC cJ cZ cQ x0 a0 a1 a2 a3 a4 a5 a6 v0 v1 t0 t1 h0 u0 u1 pa rg z nx cnt S wd hv hk hc how n hI hrg hn q
  · exact mL_weights4 l hst D sz cI cC cJ cZ cQ x0 a0 a1 a2 a3 a4 a5 a6 v0 v1 t0 t1 h0 u0 u1 pa rg z nx cnt S wd hv hk hc how n hI hrg hn q
