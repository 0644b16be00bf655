/-! volts; laid by program (wip/p36/gen) -/
abbrev rmmL_volts0 : Room := { frames := 6, cells := 0, slots := 0, locals := 170 }
set_option maxHeartbeats 4000000 in
set_option maxRecDepth 100000 in
theorem mL_volts0 (l : Launch) (hst : l.stackTraces = false) (D : va_G) (sz : Nat) (cI : ClassId) (cC : ClassId) (cJ : ClassId) (cZ : ClassId) (cQ : ClassId) (x0 : Nat) (a0 : Nat) (a1 : Nat) (a2 : Nat) (a3 : Nat) (a4 : Nat) (a5 : Nat) (a6 : Nat) (v0 : Nat) (v1 : Nat) (t0 : Nat) (t1 : Nat) (h0 : Nat) (u0 : Nat) (u1 : Nat) (pa : Nat → Nat) (rg : Nat → Option Nat) (z : StV) (nx : Nat) (cnt : Nat) (S : Nat → StV) (wd : Nat → Int64) (hv : Int32) (hk : Int32) (hc : Int32) (how : Nat) (n : Nat) (hI : oI z nx cnt S) (hrg : rgOK rg pa) (hn : n < 2147483648) (hh : how < 2) : Met l yL_volts wsL_volts rmmL_volts0 (va_Pc [.ref x0, .int (nI how), .int (nI n)] (oPre D sz (fmB (LB cI cC cJ cZ cQ x0 a0 a1 a2 a3 a4 a5 a6 v0 v1 t0 t1 h0 u0 u1 pa rg z nx cnt S wd hv hk hc) [0, 1, 2, 3, 4, 5, 6, 7]) (kT cI cC cJ cZ cQ))) (oQi D (fun (r9 : Int32) (u9 : OS) => 1 = r9 ∧ oI u9.1 u9.2.1 u9.2.2.1 u9.2.2.2.1 ∧ (how = 3 ∨ (u9.2.1 = (nx + 1) % 6 ∧ u9.2.2.1 = min (cnt + 1) 6 ∧ u9.2.2.2.1 = updS S nx z))) (fun (u9 : OS) => fmB (LB cI cC cJ cZ cQ x0 a0 a1 a2 a3 a4 a5 a6 v0 v1 t0 t1 h0 u0 u1 pa rg u9.1 u9.2.1 u9.2.2.1 u9.2.2.2.1 u9.2.2.2.2.1 u9.2.2.2.2.2.1 u9.2.2.2.2.2.2.1 u9.2.2.2.2.2.2.2) [0, 1, 2, 3, 4, 5, 6, 7]) (va_A (fmB (LB cI cC cJ cZ cQ x0 a0 a1 a2 a3 a4 a5 a6 v0 v1 t0 t1 h0 u0 u1 pa rg z nx cnt S wd hv hk hc) [0, 1, 2, 3, 4, 5, 6, 7]) sz)) 0 0 (va_A (fmB (LB cI cC cJ cZ cQ x0 a0 a1 a2 a3 a4 a5 a6 v0 v1 t0 t1 h0 u0 u1 pa rg z nx cnt S wd hv hk hc) [0, 1, 2, 3, 4, 5, 6, 7]) sz) := by
  refine k_metO (Qf := oQi D (fun (r9 : Int32) (u9 : OS) => 1 = r9 ∧ oI u9.1 u9.2.1 u9.2.2.1 u9.2.2.2.1 ∧ (how = 3 ∨ (u9.2.1 = (nx + 1) % 6 ∧ u9.2.2.1 = min (cnt + 1) 6 ∧ u9.2.2.2.1 = updS S nx z))) (fun (u9 : OS) => fmB (LB cI cC cJ cZ cQ x0 a0 a1 a2 a3 a4 a5 a6 v0 v1 t0 t1 h0 u0 u1 pa rg u9.1 u9.2.1 u9.2.2.1 u9.2.2.2.1 u9.2.2.2.2.1 u9.2.2.2.2.2.1 u9.2.2.2.2.2.2.1 u9.2.2.2.2.2.2.2) [0, 1, 2, 3, 4, 5, 6, 7])) (cc := cL_volts) (maxL := 8) (ret := (some .boolean)) (own := RL) (by decide) rfl (Nat.le_of_ble_eq_true rfl) rfl ?_
  intro p e s m args below meth c ls A H locs hx hb hr hts hown hlocks hml hsz hP hK hD hA hS hN hE hO hl
  have hl : lv_has ls 8 [(0, .ref x0), (1, .int (nI how)), (2, .int (nI n))] := hl
  obtain ⟨hw1, hwz, hlz⟩ := zI_b hI.1
  obtain ⟨hnx, hcnt, -⟩ := hI.2
  have hff := zI_f hI.1
  have hhf := zI_hf hI.1
  have hv0 := hI.1.1.1
  have hr0 := hI.1.1.2.1
  have hl0 := hI.1.1.2.2.1
  have ho0 := hI.1.2.1
  refine lv_aload_n hx hb dL_volts_0 rfl (lv_at hl 0 rfl) ?_
  refine lq_v (B0 := (LB cI cC cJ cZ cQ x0 a0 a1 a2 a3 a4 a5 a6 v0 v1 t0 t1 h0 u0 u1 pa rg z nx cnt S wd hv hk hc)) (B1 := (LB cI cC cJ cZ cQ x0 a0 a1 a2 a3 a4 a5 a6 v0 v1 t0 t1 h0 u0 u1 pa rg z nx cnt S wd hv hk hc)) (U := [0, 1, 2, 3, 4, 5, 6, 7]) (isC := [0, 1]) (isR := [2, 3, 4, 5, 6, 7]) (As := []) (rest := []) ⟨hx, hb, hml, hown, hts⟩ (kX7_voltage l D H.size cI cC cJ cZ cQ x0 v0 t0 h0 u0 a0 a1 a2 a3 a4 a5 a6 z) (cwV 0 hts gL_volts_X7_voltage rfl rfl rfl (by decide +kernel) ⟨Nat.le_of_ble_eq_true rfl, Nat.le_of_ble_eq_true rfl⟩) hP hD hK hS hA hN (by decide) rfl rfl rfl 0 7 rfl rfl rfl rfl hl.1 rfl (Nat.le_of_ble_eq_true rfl) dL_volts_1 ⟨Nat.le_of_ble_eq_true rfl, Nat.le_of_ble_eq_true rfl⟩ (fun H locs hP hD hS => ?_)
  refine lv_istore_n (lv' := [(3, .int z.1), (0, .ref x0), (1, .int (nI how)), (2, .int (nI n))]) hx hb dL_volts_4 rfl hl (by decide) rfl (fun ls hl => ?_)
  refine lv_iload_n hx hb dL_volts_5 rfl (lv_at hl 2 rfl) ?_
  refine lv_iconst (v := 2) hx hb dL_volts_6 (by decide) ?_
  refine lv_icmp_ge (tgt := 126) hx hb dL_volts_7 (by decide) (fun c_7 => ?_) (fun c_7 => ?_)
  · have c_7 : 2 ≤ how := (nI_leI (a := 2) (b := how) (by omega) (by omega)).mp c_7
    omega
  · have c_7 : ¬ 2 ≤ how := fun h => c_7 ((nI_leI (a := 2) (b := how) (by omega) (by omega)).mpr h)
    refine lv_iload_n hx hb dL_volts_10 rfl (lv_at hl 3 rfl) ?_
    refine lv_ldc hx hb hown (hts (Cond.constant RL 107 (65536)) (List.mem_of_getElem? (i := 1) rfl)) dL_volts_11 ?_
    refine lv_irem hx hb dL_volts_13 (by decide) ?_
    refine k_topi (y := nI (n % 65536)) (pk_rem (a := n) (d := 65536) (by omega) (by omega) (by omega)) ?_
    refine lv_istore (lv' := [(4, .int (nI (n % 65536))), (3, .int z.1), (0, .ref x0), (1, .int (nI how)), (2, .int (nI n))]) hx hb dL_volts_14 hl (by decide) rfl (fun ls hl => ?_)
    have hin := (show 0 ≤ (nI (n % 65536)).toInt ∧ (nI (n % 65536)).toInt ≤ 65535 from by rw [nI_toInt (by omega)]; omega)
    have htl := ts_le (nI (n % 65536)) z.2.1 z.1
    have hsd := sItr_side hin hr0 (1 + n / 7 % 30) hv0
    refine lv_aload_n hx hb dL_volts_16 rfl (lv_at hl 2 rfl) ?_
    refine lv_iload hx hb dL_volts_17 (lv_at hl 0 rfl) ?_
    refine lq_v (B0 := (LB cI cC cJ cZ cQ x0 a0 a1 a2 a3 a4 a5 a6 v0 v1 t0 t1 h0 u0 u1 pa rg z nx cnt S wd hv hk hc)) (B1 := (LB cI cC cJ cZ cQ x0 a0 a1 a2 a3 a4 a5 a6 v0 v1 t0 t1 h0 u0 u1 pa rg z nx cnt S wd hv hk hc)) (U := [0, 1, 2, 3, 4, 5, 6, 7]) (isC := [0, 1]) (isR := [2, 3, 4, 5, 6, 7]) (As := [.int (nI (n % 65536))]) (rest := []) ⟨hx, hb, hml, hown, hts⟩ (kX7_ticksToSettle l D H.size cI cC cJ cZ cQ x0 v0 t0 h0 u0 a0 a1 a2 a3 a4 a5 a6 z (nI (n % 65536)) (c_lt (b := 0) (by decide) hin.1) (c_le (b := 65535) (by decide) hin.2)) (cwV 1 hts gL_volts_X7_ticksToSettle rfl rfl rfl (by decide +kernel) ⟨Nat.le_of_ble_eq_true rfl, Nat.le_of_ble_eq_true rfl⟩) hP hD hK hS hA hN (by decide) rfl rfl rfl 0 7 rfl rfl rfl rfl hl.1 rfl (Nat.le_of_ble_eq_true rfl) dL_volts_19 ⟨Nat.le_of_ble_eq_true rfl, Nat.le_of_ble_eq_true rfl⟩ (fun H locs hP hD hS => ?_)
    refine lv_istore (lv' := [(5, .int (nI (tsGo (nI (n % 65536)) z.2.1 65536 0 z.1))), (4, .int (nI (n % 65536))), (3, .int z.1), (0, .ref x0), (1, .int (nI how)), (2, .int (nI n))]) hx hb dL_volts_22 hl (by decide) rfl (fun ls hl => ?_)
    refine lv_aload_n hx hb dL_volts_24 rfl (lv_at hl 3 rfl) ?_
    refine lv_iconst (v := 0) hx hb dL_volts_25 (by decide) ?_
    refine lv_iload hx hb dL_volts_26 (lv_at hl 1 rfl) ?_
    refine lv_iconst (v := 1) hx hb dL_volts_28 (by decide) ?_
    refine lv_iload_n hx hb dL_volts_29 rfl (lv_at hl 5 rfl) ?_
    refine lv_bipush (v := 7) hx hb dL_volts_30 (by decide) ?_
    refine lv_idiv hx hb dL_volts_32 (by decide) ?_
    refine k_topi (y := nI (n / 7)) (pk_div (a := n) (d := 7) (by omega) (by omega) (by omega)) ?_
    refine lv_bipush (v := 30) hx hb dL_volts_33 (by decide) ?_
    refine lv_irem hx hb dL_volts_35 (by decide) ?_
    refine k_topi (y := nI ((n / 7) % 30)) (pk_rem (a := (n / 7)) (d := 30) (by omega) (by omega) (by omega)) ?_
    refine lv_iadd hx hb dL_volts_36 ?_
    refine k_topi (y := nI (1 + ((n / 7) % 30))) (nI_add 1 ((n / 7) % 30)) ?_
    refine lq_s (B0 := (LB cI cC cJ cZ cQ x0 a0 a1 a2 a3 a4 a5 a6 v0 v1 t0 t1 h0 u0 u1 pa rg z nx cnt S wd hv hk hc)) (B1 := (LB cI cC cJ cZ cQ x0 a0 a1 a2 a3 a4 a5 a6 v0 v1 t0 t1 h0 u0 u1 pa rg (sItr (nI (n % 65536)) z.2.1 (1 + ((n / 7) % 30)) z.1, z.2) ((nx + 1) % 6) (min (cnt + 1) 6) (updS S nx z) wd hv hk hc)) (U := [0, 1, 2, 3, 4, 5, 6, 7]) (isC := [0, 1, 2, 3, 4]) (isR := [5, 6, 7]) (As := [.ref x0, .int 0, .int (nI (n % 65536)), .int (nI (1 + ((n / 7) % 30)))]) (rest := []) ⟨hx, hb, hml, hown, hts⟩ (kL_sample_ok l D H.size cI cC cJ cZ cQ x0 v0 t0 h0 u0 a0 a1 a2 a3 a4 a5 a6 z v1 nx cnt pa S rg (1 + ((n / 7) % 30)) (nI (n % 65536)) hnx hcnt hrg (by omega) (by omega) (c_lt (b := 0) (by decide) hin.1) (c_le (b := 65535) (by decide) hin.2)) (vx_cwSW 4 hts gL_volts_L_call rfl rfl rfl (by decide +kernel) ⟨Nat.le_of_ble_eq_true rfl, Nat.le_of_ble_eq_true rfl⟩) hP hD hK hS hA hN (by decide) rfl rfl rfl rfl hl.1 rfl (Nat.le_of_ble_eq_true rfl) dL_volts_37 ⟨Nat.le_of_ble_eq_true rfl, Nat.le_of_ble_eq_true rfl⟩ (fun H locs hP hD hS => ?_)
    have hP : va_P D vwCl (fmB (LB cI cC cJ cZ cQ x0 a0 a1 a2 a3 a4 a5 a6 v0 v1 t0 t1 h0 u0 u1 pa rg (sItr (nI (n % 65536)) z.2.1 (1 + ((n / 7) % 30)) z.1, z.2) ((nx + 1) % 6) (min (cnt + 1) 6) (updS S nx z) wd hv hk hc) [0, 1, 2, 3, 4, 5, 6, 7]) H := hP
    have hD : va_D A (fmB (LB cI cC cJ cZ cQ x0 a0 a1 a2 a3 a4 a5 a6 v0 v1 t0 t1 h0 u0 u1 pa rg (sItr (nI (n % 65536)) z.2.1 (1 + ((n / 7) % 30)) z.1, z.2) ((nx + 1) % 6) (min (cnt + 1) 6) (updS S nx z) wd hv hk hc) [0, 1, 2, 3, 4, 5, 6, 7]) := hD
    obtain ⟨z1, hz1⟩ : ∃ q9 : StV, q9 = (sItr (nI (n % 65536)) z.2.1 (1 + ((n / 7) % 30)) z.1, z.2) := ⟨_, rfl⟩
    rw [← hz1] at hP hD
    have hP : va_P D vwCl (fmB (LB cI cC cJ cZ cQ x0 a0 a1 a2 a3 a4 a5 a6 v0 v1 t0 t1 h0 u0 u1 pa rg z1 ((nx + 1) % 6) (min (cnt + 1) 6) (updS S nx z) wd hv hk hc) [0, 1, 2, 3, 4, 5, 6, 7]) H := hP
    have hD : va_D A (fmB (LB cI cC cJ cZ cQ x0 a0 a1 a2 a3 a4 a5 a6 v0 v1 t0 t1 h0 u0 u1 pa rg z1 ((nx + 1) % 6) (min (cnt + 1) 6) (updS S nx z) wd hv hk hc) [0, 1, 2, 3, 4, 5, 6, 7]) := hD
    have hz9 : zI z1 := by subst hz1; exact zI_v hI.1 (sItr_rng hin hr0 _ hv0)
    refine lv_istore (lv' := [(6, .int (sItr (nI (n % 65536)) z.2.1 (1 + ((n / 7) % 30)) z.1)), (5, .int (nI (tsGo (nI (n % 65536)) z.2.1 65536 0 z.1))), (4, .int (nI (n % 65536))), (3, .int z.1), (0, .ref x0), (1, .int (nI how)), (2, .int (nI n))]) hx hb dL_volts_40 hl (by decide) rfl (fun ls hl => ?_)
    refine lv_iload hx hb dL_volts_42 (lv_at hl 0 rfl) ?_
    refine lv_aload_n hx hb dL_volts_44 rfl (lv_at hl 4 rfl) ?_
    refine lq_v (B0 := (LB cI cC cJ cZ cQ x0 a0 a1 a2 a3 a4 a5 a6 v0 v1 t0 t1 h0 u0 u1 pa rg z1 ((nx + 1) % 6) (min (cnt + 1) 6) (updS S nx z) wd hv hk hc)) (B1 := (LB cI cC cJ cZ cQ x0 a0 a1 a2 a3 a4 a5 a6 v0 v1 t0 t1 h0 u0 u1 pa rg z1 ((nx + 1) % 6) (min (cnt + 1) 6) (updS S nx z) wd hv hk hc)) (U := [0, 1, 2, 3, 4, 5, 6, 7]) (isC := [0, 1]) (isR := [2, 3, 4, 5, 6, 7]) (As := []) (rest := [.int (sItr (nI (n % 65536)) z.2.1 (1 + ((n / 7) % 30)) z.1)]) ⟨hx, hb, hml, hown, hts⟩ (kX7_voltage l D H.size cI cC cJ cZ cQ x0 v0 t0 h0 u0 a0 a1 a2 a3 a4 a5 a6 z1) (cwV 0 hts gL_volts_X7_voltage rfl rfl rfl (by decide +kernel) ⟨Nat.le_of_ble_eq_true rfl, Nat.le_of_ble_eq_true rfl⟩) hP hD hK hS hA hN (by decide) rfl rfl rfl 0 7 rfl rfl rfl rfl hl.1 rfl (Nat.le_of_ble_eq_true rfl) dL_volts_45 ⟨Nat.le_of_ble_eq_true rfl, Nat.le_of_ble_eq_true rfl⟩ (fun H locs hP hD hS => ?_)
    refine k_topi (y := sItr (nI (n % 65536)) z.2.1 (1 + n / 7 % 30) z.1) (by subst hz1; rfl) ?_
    refine lv_icmp_ne (tgt := 124) hx hb dL_volts_48 (by decide) (fun c_48 => ?_) (fun c_48 => ?_)
    · exact absurd rfl c_48
    · refine lv_iload_n hx hb dL_volts_51 rfl (lv_at hl 3 rfl) ?_
      refine lv_iload hx hb dL_volts_52 (lv_at hl 2 rfl) ?_
      refine lv_icmp_gt (tgt := 73) hx hb dL_volts_54 (by decide) (fun c_54 => ?_) (fun c_54 => ?_)
      · refine lv_iload hx hb dL_volts_73 (lv_at hl 0 rfl) ?_
        refine lv_iload_n hx hb dL_volts_75 rfl (lv_at hl 3 rfl) ?_
        refine lv_icmp_gt (tgt := 124) hx hb dL_volts_76 (by decide) (fun c_76 => ?_) (fun c_76 => ?_)
        · (rw [i_lt] at c_54 c_76; omega)
        · refine lv_iload hx hb dL_volts_79 (lv_at hl 0 rfl) ?_
          refine lv_iload hx hb dL_volts_81 (lv_at hl 2 rfl) ?_
          refine lv_icmp_lt (tgt := 124) hx hb dL_volts_83 (by decide) (fun c_83 => ?_) (fun c_83 => ?_)
          · (rw [i_lt] at c_54 c_83; omega)
          · refine lv_iload hx hb dL_volts_86 (lv_at hl 1 rfl) ?_
            refine lv_iconst (v := 1) hx hb dL_volts_88 (by decide) ?_
            refine lv_iload_n hx hb dL_volts_89 rfl (lv_at hl 6 rfl) ?_
            refine lv_bipush (v := 7) hx hb dL_volts_90 (by decide) ?_
            refine lv_idiv hx hb dL_volts_92 (by decide) ?_
            refine k_topi (y := nI (n / 7)) (pk_div (a := n) (d := 7) (by omega) (by omega) (by omega)) ?_
            refine lv_bipush (v := 30) hx hb dL_volts_93 (by decide) ?_
            refine lv_irem hx hb dL_volts_95 (by decide) ?_
            refine k_topi (y := nI ((n / 7) % 30)) (pk_rem (a := (n / 7)) (d := 30) (by omega) (by omega) (by omega)) ?_
            refine lv_iadd hx hb dL_volts_96 ?_
            refine k_topi (y := nI (1 + ((n / 7) % 30))) (nI_add 1 ((n / 7) % 30)) ?_
            refine lv_icmp_gt (tgt := 120) hx hb dL_volts_97 (by decide) (fun c_97 => ?_) (fun c_97 => ?_)
            · have c_97 : (1 + ((n / 7) % 30)) < (tsGo (nI (n % 65536)) z.2.1 65536 0 z.1) := (nI_ltI (a := (1 + ((n / 7) % 30))) (b := (tsGo (nI (n % 65536)) z.2.1 65536 0 z.1)) (by omega) (by omega)).mp c_97
              refine lv_iconst (v := 1) hx hb dL_volts_120 (by decide) ?_
              refine lv_goto (tgt := 125) hx hb dL_volts_121 (by decide) ?_
              exact kr_oz (u := (z1, (nx + 1) % 6, min (cnt + 1) 6, updS S nx z, wd, hv, hk, hc)) (v := 1) hx hb hr hlocks rfl hP hD hS ⟨rfl, oI_push hI hz9, Or.inr ⟨rfl, rfl, rfl⟩⟩ dL_volts_125
            · have c_97 : ¬ (1 + ((n / 7) % 30)) < (tsGo (nI (n % 65536)) z.2.1 65536 0 z.1) := fun h => c_97 ((nI_ltI (a := (1 + ((n / 7) % 30))) (b := (tsGo (nI (n % 65536)) z.2.1 65536 0 z.1)) (by omega) (by omega)).mpr h)
              refine lv_iload hx hb dL_volts_100 (lv_at hl 0 rfl) ?_
              refine lv_iload hx hb dL_volts_102 (lv_at hl 2 rfl) ?_
              refine lv_isub hx hb dL_volts_104 ?_
              refine lv_bipush (v := 16) hx hb dL_volts_105 (by decide) ?_
              refine lv_icmp_ge (tgt := 124) hx hb dL_volts_107 (by decide) (fun c_107 => ?_) (fun c_107 => ?_)
              · exact absurd c_107 (ts_near hv0 hin hr0 (by omega) (by omega)).1
              · refine lv_iload hx hb dL_volts_110 (lv_at hl 2 rfl) ?_
                refine lv_iload hx hb dL_volts_112 (lv_at hl 0 rfl) ?_
                refine lv_isub hx hb dL_volts_114 ?_
                refine lv_bipush (v := 16) hx hb dL_volts_115 (by decide) ?_
                refine lv_icmp_ge (tgt := 124) hx hb dL_volts_117 (by decide) (fun c_117 => ?_) (fun c_117 => ?_)
                · exact absurd c_117 (ts_near hv0 hin hr0 (by omega) (by omega)).2
                · refine lv_iconst (v := 1) hx hb dL_volts_120 (by decide) ?_
                  refine lv_goto (tgt := 125) hx hb dL_volts_121 (by decide) ?_
                  exact kr_oz (u := (z1, (nx + 1) % 6, min (cnt + 1) 6, updS S nx z, wd, hv, hk, hc)) (v := 1) hx hb hr hlocks rfl hP hD hS ⟨rfl, oI_push hI hz9, Or.inr ⟨rfl, rfl, rfl⟩⟩ dL_volts_125
      · refine lv_iload hx hb dL_volts_57 (lv_at hl 0 rfl) ?_
        refine lv_iload_n hx hb dL_volts_59 rfl (lv_at hl 3 rfl) ?_
        refine lv_icmp_lt (tgt := 124) hx hb dL_volts_60 (by decide) (fun c_60 => ?_) (fun c_60 => ?_)
        · (rw [i_lt] at c_54 c_60; omega)
        · refine lv_iload hx hb dL_volts_63 (lv_at hl 0 rfl) ?_
          refine lv_iload hx hb dL_volts_65 (lv_at hl 2 rfl) ?_
          refine lv_icmp_gt (tgt := 124) hx hb dL_volts_67 (by decide) (fun c_67 => ?_) (fun c_67 => ?_)
          · (rw [i_lt] at c_54 c_67; omega)
          · refine lv_goto (tgt := 86) hx hb dL_volts_70 (by decide) ?_
            refine lv_iload hx hb dL_volts_86 (lv_at hl 1 rfl) ?_
            refine lv_iconst (v := 1) hx hb dL_volts_88 (by decide) ?_
            refine lv_iload_n hx hb dL_volts_89 rfl (lv_at hl 6 rfl) ?_
            refine lv_bipush (v := 7) hx hb dL_volts_90 (by decide) ?_
            refine lv_idiv hx hb dL_volts_92 (by decide) ?_
            refine k_topi (y := nI (n / 7)) (pk_div (a := n) (d := 7) (by omega) (by omega) (by omega)) ?_
            refine lv_bipush (v := 30) hx hb dL_volts_93 (by decide) ?_
            refine lv_irem hx hb dL_volts_95 (by decide) ?_
            refine k_topi (y := nI ((n / 7) % 30)) (pk_rem (a := (n / 7)) (d := 30) (by omega) (by omega) (by omega)) ?_
            refine lv_iadd hx hb dL_volts_96 ?_
            refine k_topi (y := nI (1 + ((n / 7) % 30))) (nI_add 1 ((n / 7) % 30)) ?_
            refine lv_icmp_gt (tgt := 120) hx hb dL_volts_97 (by decide) (fun c_97 => ?_) (fun c_97 => ?_)
            · have c_97 : (1 + ((n / 7) % 30)) < (tsGo (nI (n % 65536)) z.2.1 65536 0 z.1) := (nI_ltI (a := (1 + ((n / 7) % 30))) (b := (tsGo (nI (n % 65536)) z.2.1 65536 0 z.1)) (by omega) (by omega)).mp c_97
              refine lv_iconst (v := 1) hx hb dL_volts_120 (by decide) ?_
              refine lv_goto (tgt := 125) hx hb dL_volts_121 (by decide) ?_
              exact kr_oz (u := (z1, (nx + 1) % 6, min (cnt + 1) 6, updS S nx z, wd, hv, hk, hc)) (v := 1) hx hb hr hlocks rfl hP hD hS ⟨rfl, oI_push hI hz9, Or.inr ⟨rfl, rfl, rfl⟩⟩ dL_volts_125
            · have c_97 : ¬ (1 + ((n / 7) % 30)) < (tsGo (nI (n % 65536)) z.2.1 65536 0 z.1) := fun h => c_97 ((nI_ltI (a := (1 + ((n / 7) % 30))) (b := (tsGo (nI (n % 65536)) z.2.1 65536 0 z.1)) (by omega) (by omega)).mpr h)
              refine lv_iload hx hb dL_volts_100 (lv_at hl 0 rfl) ?_
              refine lv_iload hx hb dL_volts_102 (lv_at hl 2 rfl) ?_
              refine lv_isub hx hb dL_volts_104 ?_
              refine lv_bipush (v := 16) hx hb dL_volts_105 (by decide) ?_
              refine lv_icmp_ge (tgt := 124) hx hb dL_volts_107 (by decide) (fun c_107 => ?_) (fun c_107 => ?_)
              · exact absurd c_107 (ts_near hv0 hin hr0 (by omega) (by omega)).1
              · refine lv_iload hx hb dL_volts_110 (lv_at hl 2 rfl) ?_
                refine lv_iload hx hb dL_volts_112 (lv_at hl 0 rfl) ?_
                refine lv_isub hx hb dL_volts_114 ?_
                refine lv_bipush (v := 16) hx hb dL_volts_115 (by decide) ?_
                refine lv_icmp_ge (tgt := 124) hx hb dL_volts_117 (by decide) (fun c_117 => ?_) (fun c_117 => ?_)
                · exact absurd c_117 (ts_near hv0 hin hr0 (by omega) (by omega)).2
                · refine lv_iconst (v := 1) hx hb dL_volts_120 (by decide) ?_
                  refine lv_goto (tgt := 125) hx hb dL_volts_121 (by decide) ?_
                  exact kr_oz (u := (z1, (nx + 1) % 6, min (cnt + 1) 6, updS S nx z, wd, hv, hk, hc)) (v := 1) hx hb hr hlocks rfl hP hD hS ⟨rfl, oI_push hI hz9, Or.inr ⟨rfl, rfl, rfl⟩⟩ dL_volts_125

abbrev rmmL_volts2 : Room := { frames := 6, cells := 0, slots := 0, locals := 170 }
set_option maxHeartbeats 4000000 in
set_option maxRecDepth 100000 in
theorem mL_volts2 (l : Launch) (hst : l.stackTraces = false) (D : va_G) (sz : Nat) (cI : ClassId) (cC : ClassId) (cJ : ClassId) (cZ : ClassId) (cQ : ClassId) (x0 : Nat) (a0 : Nat) (a1 : Nat) (a2 : Nat) (a3 : Nat) (a4 : Nat) (a5 : Nat) (a6 : Nat) (v0 : Nat) (v1 : Nat) (t0 : Nat) (t1 : Nat) (h0 : Nat) (u0 : Nat) (u1 : Nat) (pa : Nat → Nat) (rg : Nat → Option Nat) (z : StV) (nx : Nat) (cnt : Nat) (S : Nat → StV) (wd : Nat → Int64) (hv : Int32) (hk : Int32) (hc : Int32) (how : Nat) (n : Nat) (hI : oI z nx cnt S) (hrg : rgOK rg pa) (hn : n < 2147483648) (hh : how = 2) : Met l yL_volts wsL_volts rmmL_volts2 (va_Pc [.ref x0, .int (nI how), .int (nI n)] (oPre D sz (fmB (LB cI cC cJ cZ cQ x0 a0 a1 a2 a3 a4 a5 a6 v0 v1 t0 t1 h0 u0 u1 pa rg z nx cnt S wd hv hk hc) [0, 1, 2, 3, 4, 5, 6, 7]) (kT cI cC cJ cZ cQ))) (oQi D (fun (r9 : Int32) (u9 : OS) => 1 = r9 ∧ oI u9.1 u9.2.1 u9.2.2.1 u9.2.2.2.1 ∧ (how = 3 ∨ (u9.2.1 = (nx + 1) % 6 ∧ u9.2.2.1 = min (cnt + 1) 6 ∧ u9.2.2.2.1 = updS S nx z))) (fun (u9 : OS) => fmB (LB cI cC cJ cZ cQ x0 a0 a1 a2 a3 a4 a5 a6 v0 v1 t0 t1 h0 u0 u1 pa rg u9.1 u9.2.1 u9.2.2.1 u9.2.2.2.1 u9.2.2.2.2.1 u9.2.2.2.2.2.1 u9.2.2.2.2.2.2.1 u9.2.2.2.2.2.2.2) [0, 1, 2, 3, 4, 5, 6, 7]) (va_A (fmB (LB cI cC cJ cZ cQ x0 a0 a1 a2 a3 a4 a5 a6 v0 v1 t0 t1 h0 u0 u1 pa rg z nx cnt S wd hv hk hc) [0, 1, 2, 3, 4, 5, 6, 7]) sz)) 0 0 (va_A (fmB (LB cI cC cJ cZ cQ x0 a0 a1 a2 a3 a4 a5 a6 v0 v1 t0 t1 h0 u0 u1 pa rg z nx cnt S wd hv hk hc) [0, 1, 2, 3, 4, 5, 6, 7]) sz) := by
  refine k_metO (Qf := oQi D (fun (r9 : Int32) (u9 : OS) => 1 = r9 ∧ oI u9.1 u9.2.1 u9.2.2.1 u9.2.2.2.1 ∧ (how = 3 ∨ (u9.2.1 = (nx + 1) % 6 ∧ u9.2.2.1 = min (cnt + 1) 6 ∧ u9.2.2.2.1 = updS S nx z))) (fun (u9 : OS) => fmB (LB cI cC cJ cZ cQ x0 a0 a1 a2 a3 a4 a5 a6 v0 v1 t0 t1 h0 u0 u1 pa rg u9.1 u9.2.1 u9.2.2.1 u9.2.2.2.1 u9.2.2.2.2.1 u9.2.2.2.2.2.1 u9.2.2.2.2.2.2.1 u9.2.2.2.2.2.2.2) [0, 1, 2, 3, 4, 5, 6, 7])) (cc := cL_volts) (maxL := 8) (ret := (some .boolean)) (own := RL) (by decide) rfl (Nat.le_of_ble_eq_true rfl) rfl ?_
  intro p e s m args below meth c ls A H locs hx hb hr hts hown hlocks hml hsz hP hK hD hA hS hN hE hO hl
  have hl : lv_has ls 8 [(0, .ref x0), (1, .int (nI how)), (2, .int (nI n))] := hl
  obtain ⟨hw1, hwz, hlz⟩ := zI_b hI.1
  obtain ⟨hnx, hcnt, -⟩ := hI.2
  have hff := zI_f hI.1
  have hhf := zI_hf hI.1
  have hv0 := hI.1.1.1
  have hr0 := hI.1.1.2.1
  have hl0 := hI.1.1.2.2.1
  have ho0 := hI.1.2.1
  refine lv_aload_n hx hb dL_volts_0 rfl (lv_at hl 0 rfl) ?_
  refine lq_v (B0 := (LB cI cC cJ cZ cQ x0 a0 a1 a2 a3 a4 a5 a6 v0 v1 t0 t1 h0 u0 u1 pa rg z nx cnt S wd hv hk hc)) (B1 := (LB cI cC cJ cZ cQ x0 a0 a1 a2 a3 a4 a5 a6 v0 v1 t0 t1 h0 u0 u1 pa rg z nx cnt S wd hv hk hc)) (U := [0, 1, 2, 3, 4, 5, 6, 7]) (isC := [0, 1]) (isR := [2, 3, 4, 5, 6, 7]) (As := []) (rest := []) ⟨hx, hb, hml, hown, hts⟩ (kX7_voltage l D H.size cI cC cJ cZ cQ x0 v0 t0 h0 u0 a0 a1 a2 a3 a4 a5 a6 z) (cwV 0 hts gL_volts_X7_voltage rfl rfl rfl (by decide +kernel) ⟨Nat.le_of_ble_eq_true rfl, Nat.le_of_ble_eq_true rfl⟩) hP hD hK hS hA hN (by decide) rfl rfl rfl 0 7 rfl rfl rfl rfl hl.1 rfl (Nat.le_of_ble_eq_true rfl) dL_volts_1 ⟨Nat.le_of_ble_eq_true rfl, Nat.le_of_ble_eq_true rfl⟩ (fun H locs hP hD hS => ?_)
  refine lv_istore_n (lv' := [(3, .int z.1), (0, .ref x0), (1, .int (nI how)), (2, .int (nI n))]) hx hb dL_volts_4 rfl hl (by decide) rfl (fun ls hl => ?_)
  refine lv_iload_n hx hb dL_volts_5 rfl (lv_at hl 2 rfl) ?_
  refine lv_iconst (v := 2) hx hb dL_volts_6 (by decide) ?_
  refine lv_icmp_ge (tgt := 126) hx hb dL_volts_7 (by decide) (fun c_7 => ?_) (fun c_7 => ?_)
  · have c_7 : 2 ≤ how := (nI_leI (a := 2) (b := how) (by omega) (by omega)).mp c_7
    refine lv_iload_n hx hb dL_volts_126 rfl (lv_at hl 2 rfl) ?_
    refine lv_iconst (v := 2) hx hb dL_volts_127 (by decide) ?_
    refine lv_icmp_ne (tgt := 214) hx hb dL_volts_128 (by decide) (fun c_128 => ?_) (fun c_128 => ?_)
    · have c_128 : ¬ how = 2 := fun h => c_128 ((nI_eq (a := how) (b := 2) (by omega) (by omega)).mpr h)
      omega
    · have c_128 : how = 2 := (nI_eq (a := how) (b := 2) (by omega) (by omega)).mp c_128
      refine lv_iconst (v := 1) hx hb dL_volts_131 (by decide) ?_
      refine lv_iload_n hx hb dL_volts_132 rfl (lv_at hl 3 rfl) ?_
      refine lv_bipush (v := 30) hx hb dL_volts_133 (by decide) ?_
      refine lv_irem hx hb dL_volts_135 (by decide) ?_
      refine k_topi (y := nI (n % 30)) (pk_rem (a := n) (d := 30) (by omega) (by omega) (by omega)) ?_
      refine lv_iadd hx hb dL_volts_136 ?_
      refine k_topi (y := nI (1 + (n % 30))) (nI_add 1 (n % 30)) ?_
      refine lv_istore (lv' := [(4, .int (nI (1 + (n % 30)))), (3, .int z.1), (0, .ref x0), (1, .int (nI how)), (2, .int (nI n))]) hx hb dL_volts_137 hl (by decide) rfl (fun ls hl => ?_)
      refine lv_aload_n hx hb dL_volts_139 rfl (lv_at hl 2 rfl) ?_
      refine lq_vx (B0 := (LB cI cC cJ cZ cQ x0 a0 a1 a2 a3 a4 a5 a6 v0 v1 t0 t1 h0 u0 u1 pa rg z nx cnt S wd hv hk hc)) (B1 := (fun u_4 => LB cI cC cJ cZ cQ x0 a0 a1 a2 a3 a4 a5 a6 v0 v1 t0 t1 h0 u0 u1 pa rg z nx cnt S wd u_4.1 u_4.2.1 u_4.2.2)) (U := [0, 1, 2, 3, 4, 5, 6, 7]) (isC := [0, 1, 6]) (isR := [2, 3, 4, 5, 7]) (As := []) (rest := []) ⟨hx, hb, hml, hown, hts⟩ (kX7_ticksToChange l D H.size cI cC cJ cZ cQ x0 v0 t0 h0 u0 a0 a1 a2 a3 a4 a5 a6 z hv hk hc (by first | assumption | omega)) (cwV 0 hts gL_volts_X7_ticksToChange rfl rfl rfl (by decide +kernel) ⟨Nat.le_of_ble_eq_true rfl, Nat.le_of_ble_eq_true rfl⟩) hP hD hK hS hA hN (by decide) rfl (fun _ => rfl) (fun _ => rfl) 0 7 rfl rfl rfl rfl hl.1 rfl (Nat.le_of_ble_eq_true rfl) dL_volts_140 ⟨Nat.le_of_ble_eq_true rfl, Nat.le_of_ble_eq_true rfl⟩ (fun u_4 H locs hP hD hS => ?_)
      have hP : va_P D vwCl (fmB (LB cI cC cJ cZ cQ x0 a0 a1 a2 a3 a4 a5 a6 v0 v1 t0 t1 h0 u0 u1 pa rg z nx cnt S wd u_4.1 u_4.2.1 u_4.2.2) [0, 1, 2, 3, 4, 5, 6, 7]) H := hP
      have hD : va_D A (fmB (LB cI cC cJ cZ cQ x0 a0 a1 a2 a3 a4 a5 a6 v0 v1 t0 t1 h0 u0 u1 pa rg z nx cnt S wd u_4.1 u_4.2.1 u_4.2.2) [0, 1, 2, 3, 4, 5, 6, 7]) := hD
      refine lv_istore (lv' := [(5, .int (tcGo z.2.2.2.2.2.2.2.1 z.2.2.2.2.2.1 z.2.2.1 (wgS z.2.2.2.2.2.2.2.1 0 0 0 z.1 z.2.2.2.2.2.1).2.2 200 1 z.1)), (4, .int (nI (1 + (n % 30)))), (3, .int z.1), (0, .ref x0), (1, .int (nI how)), (2, .int (nI n))]) hx hb dL_volts_143 hl (by decide) rfl (fun ls hl => ?_)
      refine lv_aload_n hx hb dL_volts_145 rfl (lv_at hl 3 rfl) ?_
      refine lv_iconst (v := 4) hx hb dL_volts_146 (by decide) ?_
      refine lv_iload_n hx hb dL_volts_147 rfl (lv_at hl 2 rfl) ?_
      refine lq_s (B0 := (LB cI cC cJ cZ cQ x0 a0 a1 a2 a3 a4 a5 a6 v0 v1 t0 t1 h0 u0 u1 pa rg z nx cnt S wd u_4.1 u_4.2.1 u_4.2.2)) (B1 := (LB cI cC cJ cZ cQ x0 a0 a1 a2 a3 a4 a5 a6 v0 v1 t0 t1 h0 u0 u1 pa rg z nx cnt S wd ((wgS z.2.2.2.2.2.2.2.1 0 0 0 z.1 z.2.2.2.2.2.1).1) ((wgS z.2.2.2.2.2.2.2.1 0 0 0 z.1 z.2.2.2.2.2.1).2.1) ((wgS z.2.2.2.2.2.2.2.1 0 0 0 z.1 z.2.2.2.2.2.1).2.2))) (U := [0, 1, 2, 3, 4, 5, 6, 7]) (isC := [0, 1, 6]) (isR := [2, 3, 4, 5, 7]) (As := [.ref x0, .int 4, .int z.1]) (rest := []) ⟨hx, hb, hml, hown, hts⟩ (kL_ideal_ok l D H.size cI cC cJ cZ cQ x0 v0 t0 h0 u0 a0 a1 a2 a3 a4 a5 a6 z u_4.1 u_4.2.1 u_4.2.2 z.1 (by first | assumption | omega) (c_lt (b := 0) (by decide) hv0.1) (c_le (b := 65535) (by decide) hv0.2)) (vx_cwSW 3 hts gL_volts_L_ask rfl rfl rfl (by decide +kernel) ⟨Nat.le_of_ble_eq_true rfl, Nat.le_of_ble_eq_true rfl⟩) hP hD hK hS hA hN (by decide) rfl rfl rfl rfl hl.1 rfl (Nat.le_of_ble_eq_true rfl) dL_volts_148 ⟨Nat.le_of_ble_eq_true rfl, Nat.le_of_ble_eq_true rfl⟩ (fun H locs hP hD hS => ?_)
      refine lv_istore (lv' := [(6, .int ((wgS z.2.2.2.2.2.2.2.1 0 0 0 z.1 z.2.2.2.2.2.1).2.2)), (5, .int (tcGo z.2.2.2.2.2.2.2.1 z.2.2.2.2.2.1 z.2.2.1 (wgS z.2.2.2.2.2.2.2.1 0 0 0 z.1 z.2.2.2.2.2.1).2.2 200 1 z.1)), (4, .int (nI (1 + (n % 30)))), (3, .int z.1), (0, .ref x0), (1, .int (nI how)), (2, .int (nI n))]) hx hb dL_volts_151 hl (by decide) rfl (fun ls hl => ?_)
      refine lv_aload_n hx hb dL_volts_153 rfl (lv_at hl 4 rfl) ?_
      refine lv_iconst (v := 1) hx hb dL_volts_154 (by decide) ?_
      refine lv_iload hx hb dL_volts_155 (lv_at hl 2 rfl) ?_
      refine lv_iconst (v := 0) hx hb dL_volts_157 (by decide) ?_
      refine lq_s (B0 := (LB cI cC cJ cZ cQ x0 a0 a1 a2 a3 a4 a5 a6 v0 v1 t0 t1 h0 u0 u1 pa rg z nx cnt S wd ((wgS z.2.2.2.2.2.2.2.1 0 0 0 z.1 z.2.2.2.2.2.1).1) ((wgS z.2.2.2.2.2.2.2.1 0 0 0 z.1 z.2.2.2.2.2.1).2.1) ((wgS z.2.2.2.2.2.2.2.1 0 0 0 z.1 z.2.2.2.2.2.1).2.2))) (B1 := (LB cI cC cJ cZ cQ x0 a0 a1 a2 a3 a4 a5 a6 v0 v1 t0 t1 h0 u0 u1 pa rg (hItr z.2.2.1 (1 + (n % 30)) z.1, z.2) ((nx + 1) % 6) (min (cnt + 1) 6) (updS S nx z) wd ((wgS z.2.2.2.2.2.2.2.1 0 0 0 z.1 z.2.2.2.2.2.1).1) ((wgS z.2.2.2.2.2.2.2.1 0 0 0 z.1 z.2.2.2.2.2.1).2.1) ((wgS z.2.2.2.2.2.2.2.1 0 0 0 z.1 z.2.2.2.2.2.1).2.2))) (U := [0, 1, 2, 3, 4, 5, 6, 7]) (isC := [0, 1, 2, 3, 4]) (isR := [5, 6, 7]) (As := [.ref x0, .int 1, .int (nI (1 + (n % 30))), .int 0]) (rest := []) ⟨hx, hb, hml, hown, hts⟩ (kL_hold_ok l D H.size cI cC cJ cZ cQ x0 v0 t0 h0 u0 a0 a1 a2 a3 a4 a5 a6 z v1 nx cnt pa S rg (1 + (n % 30)) 0 hnx hcnt hrg (by omega) (by omega)) (vx_cwSW 4 hts gL_volts_L_call rfl rfl rfl (by decide +kernel) ⟨Nat.le_of_ble_eq_true rfl, Nat.le_of_ble_eq_true rfl⟩) hP hD hK hS hA hN (by decide) rfl rfl rfl rfl hl.1 rfl (Nat.le_of_ble_eq_true rfl) dL_volts_158 ⟨Nat.le_of_ble_eq_true rfl, Nat.le_of_ble_eq_true rfl⟩ (fun H locs hP hD hS => ?_)
      have hP : va_P D vwCl (fmB (LB cI cC cJ cZ cQ x0 a0 a1 a2 a3 a4 a5 a6 v0 v1 t0 t1 h0 u0 u1 pa rg (hItr z.2.2.1 (1 + (n % 30)) z.1, z.2) ((nx + 1) % 6) (min (cnt + 1) 6) (updS S nx z) wd ((wgS z.2.2.2.2.2.2.2.1 0 0 0 z.1 z.2.2.2.2.2.1).1) ((wgS z.2.2.2.2.2.2.2.1 0 0 0 z.1 z.2.2.2.2.2.1).2.1) ((wgS z.2.2.2.2.2.2.2.1 0 0 0 z.1 z.2.2.2.2.2.1).2.2)) [0, 1, 2, 3, 4, 5, 6, 7]) H := hP
      have hD : va_D A (fmB (LB cI cC cJ cZ cQ x0 a0 a1 a2 a3 a4 a5 a6 v0 v1 t0 t1 h0 u0 u1 pa rg (hItr z.2.2.1 (1 + (n % 30)) z.1, z.2) ((nx + 1) % 6) (min (cnt + 1) 6) (updS S nx z) wd ((wgS z.2.2.2.2.2.2.2.1 0 0 0 z.1 z.2.2.2.2.2.1).1) ((wgS z.2.2.2.2.2.2.2.1 0 0 0 z.1 z.2.2.2.2.2.1).2.1) ((wgS z.2.2.2.2.2.2.2.1 0 0 0 z.1 z.2.2.2.2.2.1).2.2)) [0, 1, 2, 3, 4, 5, 6, 7]) := hD
      obtain ⟨z1, hz1⟩ : ∃ q9 : StV, q9 = (hItr z.2.2.1 (1 + (n % 30)) z.1, z.2) := ⟨_, rfl⟩
      rw [← hz1] at hP hD
      have hP : va_P D vwCl (fmB (LB cI cC cJ cZ cQ x0 a0 a1 a2 a3 a4 a5 a6 v0 v1 t0 t1 h0 u0 u1 pa rg z1 ((nx + 1) % 6) (min (cnt + 1) 6) (updS S nx z) wd ((wgS z.2.2.2.2.2.2.2.1 0 0 0 z.1 z.2.2.2.2.2.1).1) ((wgS z.2.2.2.2.2.2.2.1 0 0 0 z.1 z.2.2.2.2.2.1).2.1) ((wgS z.2.2.2.2.2.2.2.1 0 0 0 z.1 z.2.2.2.2.2.1).2.2)) [0, 1, 2, 3, 4, 5, 6, 7]) H := hP
      have hD : va_D A (fmB (LB cI cC cJ cZ cQ x0 a0 a1 a2 a3 a4 a5 a6 v0 v1 t0 t1 h0 u0 u1 pa rg z1 ((nx + 1) % 6) (min (cnt + 1) 6) (updS S nx z) wd ((wgS z.2.2.2.2.2.2.2.1 0 0 0 z.1 z.2.2.2.2.2.1).1) ((wgS z.2.2.2.2.2.2.2.1 0 0 0 z.1 z.2.2.2.2.2.1).2.1) ((wgS z.2.2.2.2.2.2.2.1 0 0 0 z.1 z.2.2.2.2.2.1).2.2)) [0, 1, 2, 3, 4, 5, 6, 7]) := hD
      have hz9 : zI z1 := by subst hz1; exact zI_v hI.1 (hItr_rng hl0 _ hv0)
      have hh1 := hItr_rng hl0 (1 + n % 30) hv0
      have hh2 := hItr_le hl0 (1 + n % 30) hv0
      have e6 : z1.2.2.2.2.2.1 = z.2.2.2.2.2.1 := by subst hz1; rfl
      obtain ⟨hq1, hq2, hq3⟩ := zI_b hz9
      refine lv_istore (lv' := [(7, .int (hItr z.2.2.1 (1 + (n % 30)) z.1)), (6, .int ((wgS z.2.2.2.2.2.2.2.1 0 0 0 z.1 z.2.2.2.2.2.1).2.2)), (5, .int (tcGo z.2.2.2.2.2.2.2.1 z.2.2.2.2.2.1 z.2.2.1 (wgS z.2.2.2.2.2.2.2.1 0 0 0 z.1 z.2.2.2.2.2.1).2.2 200 1 z.1)), (4, .int (nI (1 + (n % 30)))), (3, .int z.1), (0, .ref x0), (1, .int (nI how)), (2, .int (nI n))]) hx hb dL_volts_161 hl (by decide) rfl (fun ls hl => ?_)
      refine lv_iload hx hb dL_volts_163 (lv_at hl 0 rfl) ?_
      refine lv_aload_n hx hb dL_volts_165 rfl (lv_at hl 5 rfl) ?_
      refine lq_v (B0 := (LB cI cC cJ cZ cQ x0 a0 a1 a2 a3 a4 a5 a6 v0 v1 t0 t1 h0 u0 u1 pa rg z1 ((nx + 1) % 6) (min (cnt + 1) 6) (updS S nx z) wd ((wgS z.2.2.2.2.2.2.2.1 0 0 0 z.1 z.2.2.2.2.2.1).1) ((wgS z.2.2.2.2.2.2.2.1 0 0 0 z.1 z.2.2.2.2.2.1).2.1) ((wgS z.2.2.2.2.2.2.2.1 0 0 0 z.1 z.2.2.2.2.2.1).2.2))) (B1 := (LB cI cC cJ cZ cQ x0 a0 a1 a2 a3 a4 a5 a6 v0 v1 t0 t1 h0 u0 u1 pa rg z1 ((nx + 1) % 6) (min (cnt + 1) 6) (updS S nx z) wd ((wgS z.2.2.2.2.2.2.2.1 0 0 0 z.1 z.2.2.2.2.2.1).1) ((wgS z.2.2.2.2.2.2.2.1 0 0 0 z.1 z.2.2.2.2.2.1).2.1) ((wgS z.2.2.2.2.2.2.2.1 0 0 0 z.1 z.2.2.2.2.2.1).2.2))) (U := [0, 1, 2, 3, 4, 5, 6, 7]) (isC := [0, 1]) (isR := [2, 3, 4, 5, 6, 7]) (As := []) (rest := [.int (hItr z.2.2.1 (1 + (n % 30)) z.1)]) ⟨hx, hb, hml, hown, hts⟩ (kX7_voltage l D H.size cI cC cJ cZ cQ x0 v0 t0 h0 u0 a0 a1 a2 a3 a4 a5 a6 z1) (cwV 0 hts gL_volts_X7_voltage rfl rfl rfl (by decide +kernel) ⟨Nat.le_of_ble_eq_true rfl, Nat.le_of_ble_eq_true rfl⟩) hP hD hK hS hA hN (by decide) rfl rfl rfl 0 7 rfl rfl rfl rfl hl.1 rfl (Nat.le_of_ble_eq_true rfl) dL_volts_166 ⟨Nat.le_of_ble_eq_true rfl, Nat.le_of_ble_eq_true rfl⟩ (fun H locs hP hD hS => ?_)
      refine k_topi (y := hItr z.2.2.1 (1 + n % 30) z.1) (by subst hz1; rfl) ?_
      refine lv_icmp_ne (tgt := 212) hx hb dL_volts_169 (by decide) (fun c_169 => ?_) (fun c_169 => ?_)
      · exact absurd rfl c_169
      · refine lv_iload hx hb dL_volts_172 (lv_at hl 0 rfl) ?_
        refine lv_iload_n hx hb dL_volts_174 rfl (lv_at hl 4 rfl) ?_
        refine lv_icmp_gt (tgt := 212) hx hb dL_volts_175 (by decide) (fun c_175 => ?_) (fun c_175 => ?_)
        · (rw [i_lt] at c_175; omega)
        · refine lv_iload hx hb dL_volts_178 (lv_at hl 0 rfl) ?_
          refine lv_if_lt (tgt := 212) hx hb dL_volts_180 (by decide) (fun c_180 => ?_) (fun c_180 => ?_)
          · exact absurd c_180 (c_lt (b := 0) (by decide) hh1.1)
          · refine lv_iload hx hb dL_volts_183 (lv_at hl 2 rfl) ?_
            refine lv_iconst (v := (-1)) hx hb dL_volts_185 (by decide) ?_
            refine lv_icmp_eq (tgt := 196) hx hb dL_volts_186 (by decide) (fun c_186 => ?_) (fun c_186 => ?_)
            · refine lv_aload_n hx hb dL_volts_196 rfl (lv_at hl 5 rfl) ?_
              refine lv_iconst (v := 4) hx hb dL_volts_197 (by decide) ?_
              refine lv_iload hx hb dL_volts_198 (lv_at hl 0 rfl) ?_
              refine lq_s (B0 := (LB cI cC cJ cZ cQ x0 a0 a1 a2 a3 a4 a5 a6 v0 v1 t0 t1 h0 u0 u1 pa rg z1 ((nx + 1) % 6) (min (cnt + 1) 6) (updS S nx z) wd ((wgS z.2.2.2.2.2.2.2.1 0 0 0 z.1 z.2.2.2.2.2.1).1) ((wgS z.2.2.2.2.2.2.2.1 0 0 0 z.1 z.2.2.2.2.2.1).2.1) ((wgS z.2.2.2.2.2.2.2.1 0 0 0 z.1 z.2.2.2.2.2.1).2.2))) (B1 := (LB cI cC cJ cZ cQ x0 a0 a1 a2 a3 a4 a5 a6 v0 v1 t0 t1 h0 u0 u1 pa rg z1 ((nx + 1) % 6) (min (cnt + 1) 6) (updS S nx z) wd ((wgS z1.2.2.2.2.2.2.2.1 0 0 0 (hItr z.2.2.1 (1 + (n % 30)) z.1) z1.2.2.2.2.2.1).1) ((wgS z1.2.2.2.2.2.2.2.1 0 0 0 (hItr z.2.2.1 (1 + (n % 30)) z.1) z1.2.2.2.2.2.1).2.1) ((wgS z1.2.2.2.2.2.2.2.1 0 0 0 (hItr z.2.2.1 (1 + (n % 30)) z.1) z1.2.2.2.2.2.1).2.2))) (U := [0, 1, 2, 3, 4, 5, 6, 7]) (isC := [0, 1, 6]) (isR := [2, 3, 4, 5, 7]) (As := [.ref x0, .int 4, .int (hItr z.2.2.1 (1 + (n % 30)) z.1)]) (rest := []) ⟨hx, hb, hml, hown, hts⟩ (kL_ideal_ok l D H.size cI cC cJ cZ cQ x0 v0 t0 h0 u0 a0 a1 a2 a3 a4 a5 a6 z1 ((wgS z.2.2.2.2.2.2.2.1 0 0 0 z.1 z.2.2.2.2.2.1).1) ((wgS z.2.2.2.2.2.2.2.1 0 0 0 z.1 z.2.2.2.2.2.1).2.1) ((wgS z.2.2.2.2.2.2.2.1 0 0 0 z.1 z.2.2.2.2.2.1).2.2) (hItr z.2.2.1 (1 + (n % 30)) z.1) hq2 (c_lt (b := 0) (by decide) hh1.1) (c_le (b := 65535) (by decide) hh1.2)) (vx_cwSW 3 hts gL_volts_L_ask rfl rfl rfl (by decide +kernel) ⟨Nat.le_of_ble_eq_true rfl, Nat.le_of_ble_eq_true rfl⟩) hP hD hK hS hA hN (by decide) rfl rfl rfl rfl hl.1 rfl (Nat.le_of_ble_eq_true rfl) dL_volts_200 ⟨Nat.le_of_ble_eq_true rfl, Nat.le_of_ble_eq_true rfl⟩ (fun H locs hP hD hS => ?_)
              refine k_topi (y := (wgS z.2.2.2.2.2.2.2.1 0 0 0 (hItr z.2.2.1 (1 + n % 30) z.1) z.2.2.2.2.2.1).2.2) (by subst hz1; rfl) ?_
              refine lv_iload hx hb dL_volts_203 (lv_at hl 1 rfl) ?_
              refine lv_icmp_ne (tgt := 212) hx hb dL_volts_205 (by decide) (fun c_205 => ?_) (fun c_205 => ?_)
              · exact absurd (tc_same (by omega) (by omega) (by first | exact Or.inl c_186 | exact Or.inr c_193)) c_205
              · refine lv_iconst (v := 1) hx hb dL_volts_208 (by decide) ?_
                refine lv_goto (tgt := 213) hx hb dL_volts_209 (by decide) ?_
                exact kr_oz (u := (z1, (nx + 1) % 6, min (cnt + 1) 6, updS S nx z, wd, (wgS z1.2.2.2.2.2.2.2.1 0 0 0 (hItr z.2.2.1 (1 + (n % 30)) z.1) z1.2.2.2.2.2.1).1, (wgS z1.2.2.2.2.2.2.2.1 0 0 0 (hItr z.2.2.1 (1 + (n % 30)) z.1) z1.2.2.2.2.2.1).2.1, (wgS z1.2.2.2.2.2.2.2.1 0 0 0 (hItr z.2.2.1 (1 + (n % 30)) z.1) z1.2.2.2.2.2.1).2.2)) (v := 1) hx hb hr hlocks rfl hP hD hS ⟨rfl, oI_push hI hz9, Or.inr ⟨rfl, rfl, rfl⟩⟩ dL_volts_213
            · refine lv_iload hx hb dL_volts_189 (lv_at hl 2 rfl) ?_
              refine lv_iload hx hb dL_volts_191 (lv_at hl 3 rfl) ?_
              refine lv_icmp_le (tgt := 208) hx hb dL_volts_193 (by decide) (fun c_193 => ?_) (fun c_193 => ?_)
              · refine lv_iconst (v := 1) hx hb dL_volts_208 (by decide) ?_
                refine lv_goto (tgt := 213) hx hb dL_volts_209 (by decide) ?_
                exact kr_oz (u := (z1, (nx + 1) % 6, min (cnt + 1) 6, updS S nx z, wd, (wgS z.2.2.2.2.2.2.2.1 0 0 0 z.1 z.2.2.2.2.2.1).1, (wgS z.2.2.2.2.2.2.2.1 0 0 0 z.1 z.2.2.2.2.2.1).2.1, (wgS z.2.2.2.2.2.2.2.1 0 0 0 z.1 z.2.2.2.2.2.1).2.2)) (v := 1) hx hb hr hlocks rfl hP hD hS ⟨rfl, oI_push hI hz9, Or.inr ⟨rfl, rfl, rfl⟩⟩ dL_volts_213
              · refine lv_aload_n hx hb dL_volts_196 rfl (lv_at hl 5 rfl) ?_
                refine lv_iconst (v := 4) hx hb dL_volts_197 (by decide) ?_
                refine lv_iload hx hb dL_volts_198 (lv_at hl 0 rfl) ?_
                refine lq_s (B0 := (LB cI cC cJ cZ cQ x0 a0 a1 a2 a3 a4 a5 a6 v0 v1 t0 t1 h0 u0 u1 pa rg z1 ((nx + 1) % 6) (min (cnt + 1) 6) (updS S nx z) wd ((wgS z.2.2.2.2.2.2.2.1 0 0 0 z.1 z.2.2.2.2.2.1).1) ((wgS z.2.2.2.2.2.2.2.1 0 0 0 z.1 z.2.2.2.2.2.1).2.1) ((wgS z.2.2.2.2.2.2.2.1 0 0 0 z.1 z.2.2.2.2.2.1).2.2))) (B1 := (LB cI cC cJ cZ cQ x0 a0 a1 a2 a3 a4 a5 a6 v0 v1 t0 t1 h0 u0 u1 pa rg z1 ((nx + 1) % 6) (min (cnt + 1) 6) (updS S nx z) wd ((wgS z1.2.2.2.2.2.2.2.1 0 0 0 (hItr z.2.2.1 (1 + (n % 30)) z.1) z1.2.2.2.2.2.1).1) ((wgS z1.2.2.2.2.2.2.2.1 0 0 0 (hItr z.2.2.1 (1 + (n % 30)) z.1) z1.2.2.2.2.2.1).2.1) ((wgS z1.2.2.2.2.2.2.2.1 0 0 0 (hItr z.2.2.1 (1 + (n % 30)) z.1) z1.2.2.2.2.2.1).2.2))) (U := [0, 1, 2, 3, 4, 5, 6, 7]) (isC := [0, 1, 6]) (isR := [2, 3, 4, 5, 7]) (As := [.ref x0, .int 4, .int (hItr z.2.2.1 (1 + (n % 30)) z.1)]) (rest := []) ⟨hx, hb, hml, hown, hts⟩ (kL_ideal_ok l D H.size cI cC cJ cZ cQ x0 v0 t0 h0 u0 a0 a1 a2 a3 a4 a5 a6 z1 ((wgS z.2.2.2.2.2.2.2.1 0 0 0 z.1 z.2.2.2.2.2.1).1) ((wgS z.2.2.2.2.2.2.2.1 0 0 0 z.1 z.2.2.2.2.2.1).2.1) ((wgS z.2.2.2.2.2.2.2.1 0 0 0 z.1 z.2.2.2.2.2.1).2.2) (hItr z.2.2.1 (1 + (n % 30)) z.1) hq2 (c_lt (b := 0) (by decide) hh1.1) (c_le (b := 65535) (by decide) hh1.2)) (vx_cwSW 3 hts gL_volts_L_ask rfl rfl rfl (by decide +kernel) ⟨Nat.le_of_ble_eq_true rfl, Nat.le_of_ble_eq_true rfl⟩) hP hD hK hS hA hN (by decide) rfl rfl rfl rfl hl.1 rfl (Nat.le_of_ble_eq_true rfl) dL_volts_200 ⟨Nat.le_of_ble_eq_true rfl, Nat.le_of_ble_eq_true rfl⟩ (fun H locs hP hD hS => ?_)
                refine k_topi (y := (wgS z.2.2.2.2.2.2.2.1 0 0 0 (hItr z.2.2.1 (1 + n % 30) z.1) z.2.2.2.2.2.1).2.2) (by subst hz1; rfl) ?_
                refine lv_iload hx hb dL_volts_203 (lv_at hl 1 rfl) ?_
                refine lv_icmp_ne (tgt := 212) hx hb dL_volts_205 (by decide) (fun c_205 => ?_) (fun c_205 => ?_)
                · exact absurd (tc_same (by omega) (by omega) (by first | exact Or.inl c_186 | exact Or.inr c_193)) c_205
                · refine lv_iconst (v := 1) hx hb dL_volts_208 (by decide) ?_
                  refine lv_goto (tgt := 213) hx hb dL_volts_209 (by decide) ?_
                  exact kr_oz (u := (z1, (nx + 1) % 6, min (cnt + 1) 6, updS S nx z, wd, (wgS z1.2.2.2.2.2.2.2.1 0 0 0 (hItr z.2.2.1 (1 + (n % 30)) z.1) z1.2.2.2.2.2.1).1, (wgS z1.2.2.2.2.2.2.2.1 0 0 0 (hItr z.2.2.1 (1 + (n % 30)) z.1) z1.2.2.2.2.2.1).2.1, (wgS z1.2.2.2.2.2.2.2.1 0 0 0 (hItr z.2.2.1 (1 + (n % 30)) z.1) z1.2.2.2.2.2.1).2.2)) (v := 1) hx hb hr hlocks rfl hP hD hS ⟨rfl, oI_push hI hz9, Or.inr ⟨rfl, rfl, rfl⟩⟩ dL_volts_213
  · have c_7 : ¬ 2 ≤ how := fun h => c_7 ((nI_leI (a := 2) (b := how) (by omega) (by omega)).mpr h)
    omega

abbrev rmmL_volts3 : Room := { frames := 6, cells := 0, slots := 0, locals := 170 }
set_option maxHeartbeats 4000000 in
set_option maxRecDepth 100000 in
theorem mL_volts3 (l : Launch) (hst : l.stackTraces = false) (D : va_G) (sz : Nat) (cI : ClassId) (cC : ClassId) (cJ : ClassId) (cZ : ClassId) (cQ : ClassId) (x0 : Nat) (a0 : Nat) (a1 : Nat) (a2 : Nat) (a3 : Nat) (a4 : Nat) (a5 : Nat) (a6 : Nat) (v0 : Nat) (v1 : Nat) (t0 : Nat) (t1 : Nat) (h0 : Nat) (u0 : Nat) (u1 : Nat) (pa : Nat → Nat) (rg : Nat → Option Nat) (z : StV) (nx : Nat) (cnt : Nat) (S : Nat → StV) (wd : Nat → Int64) (hv : Int32) (hk : Int32) (hc : Int32) (how : Nat) (n : Nat) (hI : oI z nx cnt S) (hrg : rgOK rg pa) (hn : n < 2147483648) (hh : how = 3) : Met l yL_volts wsL_volts rmmL_volts3 (va_Pc [.ref x0, .int (nI how), .int (nI n)] (oPre D sz (fmB (LB cI cC cJ cZ cQ x0 a0 a1 a2 a3 a4 a5 a6 v0 v1 t0 t1 h0 u0 u1 pa rg z nx cnt S wd hv hk hc) [0, 1, 2, 3, 4, 5, 6, 7]) (kT cI cC cJ cZ cQ))) (oQi D (fun (r9 : Int32) (u9 : OS) => 1 = r9 ∧ oI u9.1 u9.2.1 u9.2.2.1 u9.2.2.2.1 ∧ (how = 3 ∨ (u9.2.1 = (nx + 1) % 6 ∧ u9.2.2.1 = min (cnt + 1) 6 ∧ u9.2.2.2.1 = updS S nx z))) (fun (u9 : OS) => fmB (LB cI cC cJ cZ cQ x0 a0 a1 a2 a3 a4 a5 a6 v0 v1 t0 t1 h0 u0 u1 pa rg u9.1 u9.2.1 u9.2.2.1 u9.2.2.2.1 u9.2.2.2.2.1 u9.2.2.2.2.2.1 u9.2.2.2.2.2.2.1 u9.2.2.2.2.2.2.2) [0, 1, 2, 3, 4, 5, 6, 7]) (va_A (fmB (LB cI cC cJ cZ cQ x0 a0 a1 a2 a3 a4 a5 a6 v0 v1 t0 t1 h0 u0 u1 pa rg z nx cnt S wd hv hk hc) [0, 1, 2, 3, 4, 5, 6, 7]) sz)) 0 0 (va_A (fmB (LB cI cC cJ cZ cQ x0 a0 a1 a2 a3 a4 a5 a6 v0 v1 t0 t1 h0 u0 u1 pa rg z nx cnt S wd hv hk hc) [0, 1, 2, 3, 4, 5, 6, 7]) sz) := by
  refine k_metO (Qf := oQi D (fun (r9 : Int32) (u9 : OS) => 1 = r9 ∧ oI u9.1 u9.2.1 u9.2.2.1 u9.2.2.2.1 ∧ (how = 3 ∨ (u9.2.1 = (nx + 1) % 6 ∧ u9.2.2.1 = min (cnt + 1) 6 ∧ u9.2.2.2.1 = updS S nx z))) (fun (u9 : OS) => fmB (LB cI cC cJ cZ cQ x0 a0 a1 a2 a3 a4 a5 a6 v0 v1 t0 t1 h0 u0 u1 pa rg u9.1 u9.2.1 u9.2.2.1 u9.2.2.2.1 u9.2.2.2.2.1 u9.2.2.2.2.2.1 u9.2.2.2.2.2.2.1 u9.2.2.2.2.2.2.2) [0, 1, 2, 3, 4, 5, 6, 7])) (cc := cL_volts) (maxL := 8) (ret := (some .boolean)) (own := RL) (by decide) rfl (Nat.le_of_ble_eq_true rfl) rfl ?_
  intro p e s m args below meth c ls A H locs hx hb hr hts hown hlocks hml hsz hP hK hD hA hS hN hE hO hl
  have hl : lv_has ls 8 [(0, .ref x0), (1, .int (nI how)), (2, .int (nI n))] := hl
  obtain ⟨hw1, hwz, hlz⟩ := zI_b hI.1
  obtain ⟨hnx, hcnt, -⟩ := hI.2
  have hff := zI_f hI.1
  have hhf := zI_hf hI.1
  have hv0 := hI.1.1.1
  have hr0 := hI.1.1.2.1
  have hl0 := hI.1.1.2.2.1
  have ho0 := hI.1.2.1
  refine lv_aload_n hx hb dL_volts_0 rfl (lv_at hl 0 rfl) ?_
  refine lq_v (B0 := (LB cI cC cJ cZ cQ x0 a0 a1 a2 a3 a4 a5 a6 v0 v1 t0 t1 h0 u0 u1 pa rg z nx cnt S wd hv hk hc)) (B1 := (LB cI cC cJ cZ cQ x0 a0 a1 a2 a3 a4 a5 a6 v0 v1 t0 t1 h0 u0 u1 pa rg z nx cnt S wd hv hk hc)) (U := [0, 1, 2, 3, 4, 5, 6, 7]) (isC := [0, 1]) (isR := [2, 3, 4, 5, 6, 7]) (As := []) (rest := []) ⟨hx, hb, hml, hown, hts⟩ (kX7_voltage l D H.size cI cC cJ cZ cQ x0 v0 t0 h0 u0 a0 a1 a2 a3 a4 a5 a6 z) (cwV 0 hts gL_volts_X7_voltage rfl rfl rfl (by decide +kernel) ⟨Nat.le_of_ble_eq_true rfl, Nat.le_of_ble_eq_true rfl⟩) hP hD hK hS hA hN (by decide) rfl rfl rfl 0 7 rfl rfl rfl rfl hl.1 rfl (Nat.le_of_ble_eq_true rfl) dL_volts_1 ⟨Nat.le_of_ble_eq_true rfl, Nat.le_of_ble_eq_true rfl⟩ (fun H locs hP hD hS => ?_)
  refine lv_istore_n (lv' := [(3, .int z.1), (0, .ref x0), (1, .int (nI how)), (2, .int (nI n))]) hx hb dL_volts_4 rfl hl (by decide) rfl (fun ls hl => ?_)
  refine lv_iload_n hx hb dL_volts_5 rfl (lv_at hl 2 rfl) ?_
  refine lv_iconst (v := 2) hx hb dL_volts_6 (by decide) ?_
  refine lv_icmp_ge (tgt := 126) hx hb dL_volts_7 (by decide) (fun c_7 => ?_) (fun c_7 => ?_)
  · have c_7 : 2 ≤ how := (nI_leI (a := 2) (b := how) (by omega) (by omega)).mp c_7
    refine lv_iload_n hx hb dL_volts_126 rfl (lv_at hl 2 rfl) ?_
    refine lv_iconst (v := 2) hx hb dL_volts_127 (by decide) ?_
    refine lv_icmp_ne (tgt := 214) hx hb dL_volts_128 (by decide) (fun c_128 => ?_) (fun c_128 => ?_)
    · have c_128 : ¬ how = 2 := fun h => c_128 ((nI_eq (a := how) (b := 2) (by omega) (by omega)).mpr h)
      refine lv_iload_n hx hb dL_volts_214 rfl (lv_at hl 2 rfl) ?_
      refine lv_iconst (v := 3) hx hb dL_volts_215 (by decide) ?_
      refine lv_icmp_ne (tgt := 291) hx hb dL_volts_216 (by decide) (fun c_216 => ?_) (fun c_216 => ?_)
      · have c_216 : ¬ how = 3 := fun h => c_216 ((nI_eq (a := how) (b := 3) (by omega) (by omega)).mpr h)
        omega
      · have c_216 : how = 3 := (nI_eq (a := how) (b := 3) (by omega) (by omega)).mp c_216
        refine lv_aload_n hx hb dL_volts_219 rfl (lv_at hl 1 rfl) ?_
        refine lv_iconst (v := 2) hx hb dL_volts_220 (by decide) ?_
        refine lv_iconst (v := 1) hx hb dL_volts_221 (by decide) ?_
        refine lv_iload_n hx hb dL_volts_222 rfl (lv_at hl 3 rfl) ?_
        refine lv_bipush (v := 16) hx hb dL_volts_223 (by decide) ?_
        refine lv_irem hx hb dL_volts_225 (by decide) ?_
        refine k_topi (y := nI (n % 16)) (pk_rem (a := n) (d := 16) (by omega) (by omega) (by omega)) ?_
        refine lv_iadd hx hb dL_volts_226 ?_
        refine k_topi (y := nI (1 + (n % 16))) (nI_add 1 (n % 16)) ?_
        refine lv_iload_n hx hb dL_volts_227 rfl (lv_at hl 3 rfl) ?_
        refine lv_bipush (v := 16) hx hb dL_volts_228 (by decide) ?_
        refine lv_idiv hx hb dL_volts_230 (by decide) ?_
        refine k_topi (y := nI (n / 16)) (pk_div (a := n) (d := 16) (by omega) (by omega) (by omega)) ?_
        refine lv_bipush (v := 65) hx hb dL_volts_231 (by decide) ?_
        refine lv_irem hx hb dL_volts_233 (by decide) ?_
        refine k_topi (y := nI ((n / 16) % 65)) (pk_rem (a := (n / 16)) (d := 65) (by omega) (by omega) (by omega)) ?_
        refine lq_s (B0 := (LB cI cC cJ cZ cQ x0 a0 a1 a2 a3 a4 a5 a6 v0 v1 t0 t1 h0 u0 u1 pa rg z nx cnt S wd hv hk hc)) (B1 := (LB cI cC cJ cZ cQ x0 a0 a1 a2 a3 a4 a5 a6 v0 v1 t0 t1 h0 u0 u1 pa rg (z.1, nI (1 + (n % 16)), nI ((n / 16) % 65), z.2.2.2) ((nx + 1) % 6) (min (cnt + 1) 6) (updS S nx z) wd hv hk hc)) (U := [0, 1, 2, 3, 4, 5, 6, 7]) (isC := [0, 1, 2, 3, 4]) (isR := [5, 6, 7]) (As := [.ref x0, .int 2, .int (nI (1 + (n % 16))), .int (nI ((n / 16) % 65))]) (rest := []) ⟨hx, hb, hml, hown, hts⟩ (kL_setCapacitor_ok l D H.size cI cC cJ cZ cQ x0 v0 t0 h0 u0 a0 a1 a2 a3 a4 a5 a6 z v1 nx cnt pa S rg (nI (1 + (n % 16))) (nI ((n / 16) % 65)) hnx hcnt hrg (n_nlt (1 + n % 16) 1 (by omega) (by omega)) (n_le (1 + n % 16) 16 (by omega) (by omega)) (n_nlt (n / 16 % 65) 0 (by omega) (by omega)) (n_le (n / 16 % 65) 64 (by omega) (by omega))) (vx_cwSW 4 hts gL_volts_L_call rfl rfl rfl (by decide +kernel) ⟨Nat.le_of_ble_eq_true rfl, Nat.le_of_ble_eq_true rfl⟩) hP hD hK hS hA hN (by decide) rfl rfl rfl rfl hl.1 rfl (Nat.le_of_ble_eq_true rfl) dL_volts_234 ⟨Nat.le_of_ble_eq_true rfl, Nat.le_of_ble_eq_true rfl⟩ (fun H locs hP hD hS => ?_)
        have hP : va_P D vwCl (fmB (LB cI cC cJ cZ cQ x0 a0 a1 a2 a3 a4 a5 a6 v0 v1 t0 t1 h0 u0 u1 pa rg (z.1, nI (1 + (n % 16)), nI ((n / 16) % 65), z.2.2.2) ((nx + 1) % 6) (min (cnt + 1) 6) (updS S nx z) wd hv hk hc) [0, 1, 2, 3, 4, 5, 6, 7]) H := hP
        have hD : va_D A (fmB (LB cI cC cJ cZ cQ x0 a0 a1 a2 a3 a4 a5 a6 v0 v1 t0 t1 h0 u0 u1 pa rg (z.1, nI (1 + (n % 16)), nI ((n / 16) % 65), z.2.2.2) ((nx + 1) % 6) (min (cnt + 1) 6) (updS S nx z) wd hv hk hc) [0, 1, 2, 3, 4, 5, 6, 7]) := hD
        obtain ⟨z1, hz1⟩ : ∃ q9 : StV, q9 = (z.1, nI (1 + (n % 16)), nI ((n / 16) % 65), z.2.2.2) := ⟨_, rfl⟩
        rw [← hz1] at hP hD
        have hP : va_P D vwCl (fmB (LB cI cC cJ cZ cQ x0 a0 a1 a2 a3 a4 a5 a6 v0 v1 t0 t1 h0 u0 u1 pa rg z1 ((nx + 1) % 6) (min (cnt + 1) 6) (updS S nx z) wd hv hk hc) [0, 1, 2, 3, 4, 5, 6, 7]) H := hP
        have hD : va_D A (fmB (LB cI cC cJ cZ cQ x0 a0 a1 a2 a3 a4 a5 a6 v0 v1 t0 t1 h0 u0 u1 pa rg z1 ((nx + 1) % 6) (min (cnt + 1) 6) (updS S nx z) wd hv hk hc) [0, 1, 2, 3, 4, 5, 6, 7]) := hD
        have hz9 : zI z1 := by subst hz1; exact zI_cap hI.1 (by rw [nI_toInt (by omega)]; omega) (by rw [nI_toInt (by omega)]; omega)
        have hI1 := oI_push hI hz9
        obtain ⟨hnx1, hcnt1, -⟩ := hI1.2
        refine lv_istore (lv' := [(4, .int z.2.1), (3, .int z.1), (0, .ref x0), (1, .int (nI how)), (2, .int (nI n))]) hx hb dL_volts_237 hl (by decide) rfl (fun ls hl => ?_)
        refine lv_iload hx hb dL_volts_239 (lv_at hl 0 rfl) ?_
        refine lv_if_le (tgt := 289) hx hb dL_volts_241 (by decide) (fun c_241 => ?_) (fun c_241 => ?_)
        · exact absurd c_241 (c_nle (b := 0) (by decide) (by omega))
        · refine lv_iload hx hb dL_volts_244 (lv_at hl 0 rfl) ?_
          refine lv_bipush (v := 17) hx hb dL_volts_246 (by decide) ?_
          refine lv_icmp_ge (tgt := 289) hx hb dL_volts_248 (by decide) (fun c_248 => ?_) (fun c_248 => ?_)
          · exact absurd c_248 (c_nge (b := 17) (by decide) (by omega))
          · refine lv_aload_n hx hb dL_volts_251 rfl (lv_at hl 2 rfl) ?_
            refine lv_iconst (v := 2) hx hb dL_volts_252 (by decide) ?_
            refine lv_iconst (v := 1) hx hb dL_volts_253 (by decide) ?_
            refine lv_iload_n hx hb dL_volts_254 rfl (lv_at hl 4 rfl) ?_
            refine lv_bipush (v := 16) hx hb dL_volts_255 (by decide) ?_
            refine lv_irem hx hb dL_volts_257 (by decide) ?_
            refine k_topi (y := nI (n % 16)) (pk_rem (a := n) (d := 16) (by omega) (by omega) (by omega)) ?_
            refine lv_iadd hx hb dL_volts_258 ?_
            refine k_topi (y := nI (1 + (n % 16))) (nI_add 1 (n % 16)) ?_
            refine lv_iload_n hx hb dL_volts_259 rfl (lv_at hl 4 rfl) ?_
            refine lv_bipush (v := 16) hx hb dL_volts_260 (by decide) ?_
            refine lv_idiv hx hb dL_volts_262 (by decide) ?_
            refine k_topi (y := nI (n / 16)) (pk_div (a := n) (d := 16) (by omega) (by omega) (by omega)) ?_
            refine lv_bipush (v := 65) hx hb dL_volts_263 (by decide) ?_
            refine lv_irem hx hb dL_volts_265 (by decide) ?_
            refine k_topi (y := nI ((n / 16) % 65)) (pk_rem (a := (n / 16)) (d := 65) (by omega) (by omega) (by omega)) ?_
            refine lq_s (B0 := (LB cI cC cJ cZ cQ x0 a0 a1 a2 a3 a4 a5 a6 v0 v1 t0 t1 h0 u0 u1 pa rg z1 ((nx + 1) % 6) (min (cnt + 1) 6) (updS S nx z) wd hv hk hc)) (B1 := (LB cI cC cJ cZ cQ x0 a0 a1 a2 a3 a4 a5 a6 v0 v1 t0 t1 h0 u0 u1 pa rg (z1.1, nI (1 + (n % 16)), nI ((n / 16) % 65), z1.2.2.2) ((((nx + 1) % 6) + 1) % 6) (min ((min (cnt + 1) 6) + 1) 6) (updS (updS S nx z) ((nx + 1) % 6) z1) wd hv hk hc)) (U := [0, 1, 2, 3, 4, 5, 6, 7]) (isC := [0, 1, 2, 3, 4]) (isR := [5, 6, 7]) (As := [.ref x0, .int 2, .int (nI (1 + (n % 16))), .int (nI ((n / 16) % 65))]) (rest := []) ⟨hx, hb, hml, hown, hts⟩ (kL_setCapacitor_ok l D H.size cI cC cJ cZ cQ x0 v0 t0 h0 u0 a0 a1 a2 a3 a4 a5 a6 z1 v1 ((nx + 1) % 6) (min (cnt + 1) 6) pa (updS S nx z) rg (nI (1 + (n % 16))) (nI ((n / 16) % 65)) hnx1 hcnt1 hrg (n_nlt (1 + n % 16) 1 (by omega) (by omega)) (n_le (1 + n % 16) 16 (by omega) (by omega)) (n_nlt (n / 16 % 65) 0 (by omega) (by omega)) (n_le (n / 16 % 65) 64 (by omega) (by omega))) (vx_cwSW 4 hts gL_volts_L_call rfl rfl rfl (by decide +kernel) ⟨Nat.le_of_ble_eq_true rfl, Nat.le_of_ble_eq_true rfl⟩) hP hD hK hS hA hN (by decide) rfl rfl rfl rfl hl.1 rfl (Nat.le_of_ble_eq_true rfl) dL_volts_266 ⟨Nat.le_of_ble_eq_true rfl, Nat.le_of_ble_eq_true rfl⟩ (fun H locs hP hD hS => ?_)
            have hP : va_P D vwCl (fmB (LB cI cC cJ cZ cQ x0 a0 a1 a2 a3 a4 a5 a6 v0 v1 t0 t1 h0 u0 u1 pa rg (z1.1, nI (1 + (n % 16)), nI ((n / 16) % 65), z1.2.2.2) ((((nx + 1) % 6) + 1) % 6) (min ((min (cnt + 1) 6) + 1) 6) (updS (updS S nx z) ((nx + 1) % 6) z1) wd hv hk hc) [0, 1, 2, 3, 4, 5, 6, 7]) H := hP
            have hD : va_D A (fmB (LB cI cC cJ cZ cQ x0 a0 a1 a2 a3 a4 a5 a6 v0 v1 t0 t1 h0 u0 u1 pa rg (z1.1, nI (1 + (n % 16)), nI ((n / 16) % 65), z1.2.2.2) ((((nx + 1) % 6) + 1) % 6) (min ((min (cnt + 1) 6) + 1) 6) (updS (updS S nx z) ((nx + 1) % 6) z1) wd hv hk hc) [0, 1, 2, 3, 4, 5, 6, 7]) := hD
            obtain ⟨z2, hz2⟩ : ∃ q9 : StV, q9 = (z1.1, nI (1 + (n % 16)), nI ((n / 16) % 65), z1.2.2.2) := ⟨_, rfl⟩
            rw [← hz2] at hP hD
            have hP : va_P D vwCl (fmB (LB cI cC cJ cZ cQ x0 a0 a1 a2 a3 a4 a5 a6 v0 v1 t0 t1 h0 u0 u1 pa rg z2 ((((nx + 1) % 6) + 1) % 6) (min ((min (cnt + 1) 6) + 1) 6) (updS (updS S nx z) ((nx + 1) % 6) z1) wd hv hk hc) [0, 1, 2, 3, 4, 5, 6, 7]) H := hP
            have hD : va_D A (fmB (LB cI cC cJ cZ cQ x0 a0 a1 a2 a3 a4 a5 a6 v0 v1 t0 t1 h0 u0 u1 pa rg z2 ((((nx + 1) % 6) + 1) % 6) (min ((min (cnt + 1) 6) + 1) 6) (updS (updS S nx z) ((nx + 1) % 6) z1) wd hv hk hc) [0, 1, 2, 3, 4, 5, 6, 7]) := hD
            refine k_topi (y := nI (1 + n % 16)) (by subst hz1; rfl) ?_
            have hz8 : zI z2 := by subst hz2; exact zI_cap hz9 (by rw [nI_toInt (by omega)]; omega) (by rw [nI_toInt (by omega)]; omega)
            have hI2 := oI_push hI1 hz8
            obtain ⟨hnx2, hcnt2, -⟩ := hI2.2
            refine lv_iconst (v := 1) hx hb dL_volts_269 (by decide) ?_
            refine lv_iload_n hx hb dL_volts_270 rfl (lv_at hl 4 rfl) ?_
            refine lv_bipush (v := 16) hx hb dL_volts_271 (by decide) ?_
            refine lv_irem hx hb dL_volts_273 (by decide) ?_
            refine k_topi (y := nI (n % 16)) (pk_rem (a := n) (d := 16) (by omega) (by omega) (by omega)) ?_
            refine lv_iadd hx hb dL_volts_274 ?_
            refine k_topi (y := nI (1 + (n % 16))) (nI_add 1 (n % 16)) ?_
            refine lv_icmp_ne (tgt := 289) hx hb dL_volts_275 (by decide) (fun c_275 => ?_) (fun c_275 => ?_)
            · exact absurd rfl c_275
            · refine lv_aload_n hx hb dL_volts_278 rfl (lv_at hl 2 rfl) ?_
              refine lq_v (B0 := (LB cI cC cJ cZ cQ x0 a0 a1 a2 a3 a4 a5 a6 v0 v1 t0 t1 h0 u0 u1 pa rg z2 ((((nx + 1) % 6) + 1) % 6) (min ((min (cnt + 1) 6) + 1) 6) (updS (updS S nx z) ((nx + 1) % 6) z1) wd hv hk hc)) (B1 := (LB cI cC cJ cZ cQ x0 a0 a1 a2 a3 a4 a5 a6 v0 v1 t0 t1 h0 u0 u1 pa rg ((updS (updS S nx z) ((nx + 1) % 6) z1) ((((((nx + 1) % 6) + 1) % 6) + 5) % 6)) ((((((nx + 1) % 6) + 1) % 6) + 5) % 6) ((min ((min (cnt + 1) 6) + 1) 6) - 1) (updS (updS S nx z) ((nx + 1) % 6) z1) wd hv hk hc)) (U := [0, 1, 2, 3, 4, 5, 6, 7]) (isC := [0, 1, 2, 3, 4]) (isR := [5, 6, 7]) (As := []) (rest := []) ⟨hx, hb, hml, hown, hts⟩ (kX7_undo l D H.size cI cC cJ cZ cQ x0 v0 t0 h0 u0 a0 a1 a2 a3 a4 a5 a6 z2 v1 ((((nx + 1) % 6) + 1) % 6) (min ((min (cnt + 1) 6) + 1) 6) pa (updS (updS S nx z) ((nx + 1) % 6) z1) rg hnx2 hcnt2 hrg (by omega)) (cwV 0 hts gL_volts_X7_undo rfl rfl rfl (by decide +kernel) ⟨Nat.le_of_ble_eq_true rfl, Nat.le_of_ble_eq_true rfl⟩) hP hD hK hS hA hN (by decide) rfl rfl rfl 0 7 rfl rfl rfl rfl hl.1 rfl (Nat.le_of_ble_eq_true rfl) dL_volts_279 ⟨Nat.le_of_ble_eq_true rfl, Nat.le_of_ble_eq_true rfl⟩ (fun H locs hP hD hS => ?_)
              refine lv_if_lt (tgt := 289) hx hb dL_volts_282 (by decide) (fun c_282 => ?_) (fun c_282 => ?_)
              · have c_282 : ((min ((min (cnt + 1) 6) + 1) 6) - 1) < 0 := (nI_ltI (a := ((min ((min (cnt + 1) 6) + 1) 6) - 1)) (b := 0) (by omega) (by omega)).mp c_282
                omega
              · have c_282 : ¬ ((min ((min (cnt + 1) 6) + 1) 6) - 1) < 0 := fun h => c_282 ((nI_ltI (a := ((min ((min (cnt + 1) 6) + 1) 6) - 1)) (b := 0) (by omega) (by omega)).mpr h)
                refine lv_iconst (v := 1) hx hb dL_volts_285 (by decide) ?_
                refine lv_goto (tgt := 290) hx hb dL_volts_286 (by decide) ?_
                exact kr_oz (u := ((updS (updS S nx z) ((nx + 1) % 6) z1) ((((((nx + 1) % 6) + 1) % 6) + 5) % 6), (((((nx + 1) % 6) + 1) % 6) + 5) % 6, (min ((min (cnt + 1) 6) + 1) 6) - 1, updS (updS S nx z) ((nx + 1) % 6) z1, wd, hv, hk, hc)) (v := 1) hx hb hr hlocks rfl hP hD hS ⟨rfl, oI_pop hI2 (by omega), Or.inl hh⟩ dL_volts_290
    · have c_128 : how = 2 := (nI_eq (a := how) (b := 2) (by omega) (by omega)).mp c_128
      omega
  · have c_7 : ¬ 2 ≤ how := fun h => c_7 ((nI_leI (a := 2) (b := how) (by omega) (by omega)).mpr h)
    omega

abbrev rmmL_volts4 : Room := { frames := 6, cells := 0, slots := 0, locals := 170 }
set_option maxHeartbeats 4000000 in
set_option maxRecDepth 100000 in
theorem mL_volts4 (l : Launch) (hst : l.stackTraces = false) (D : va_G) (sz : Nat) (cI : ClassId) (cC : ClassId) (cJ : ClassId) (cZ : ClassId) (cQ : ClassId) (x0 : Nat) (a0 : Nat) (a1 : Nat) (a2 : Nat) (a3 : Nat) (a4 : Nat) (a5 : Nat) (a6 : Nat) (v0 : Nat) (v1 : Nat) (t0 : Nat) (t1 : Nat) (h0 : Nat) (u0 : Nat) (u1 : Nat) (pa : Nat → Nat) (rg : Nat → Option Nat) (z : StV) (nx : Nat) (cnt : Nat) (S : Nat → StV) (wd : Nat → Int64) (hv : Int32) (hk : Int32) (hc : Int32) (how : Nat) (n : Nat) (hI : oI z nx cnt S) (hrg : rgOK rg pa) (hn : n < 2147483648) (hh : how = 4) : Met l yL_volts wsL_volts rmmL_volts4 (va_Pc [.ref x0, .int (nI how), .int (nI n)] (oPre D sz (fmB (LB cI cC cJ cZ cQ x0 a0 a1 a2 a3 a4 a5 a6 v0 v1 t0 t1 h0 u0 u1 pa rg z nx cnt S wd hv hk hc) [0, 1, 2, 3, 4, 5, 6, 7]) (kT cI cC cJ cZ cQ))) (oQi D (fun (r9 : Int32) (u9 : OS) => 1 = r9 ∧ oI u9.1 u9.2.1 u9.2.2.1 u9.2.2.2.1 ∧ (how = 3 ∨ (u9.2.1 = (nx + 1) % 6 ∧ u9.2.2.1 = min (cnt + 1) 6 ∧ u9.2.2.2.1 = updS S nx z))) (fun (u9 : OS) => fmB (LB cI cC cJ cZ cQ x0 a0 a1 a2 a3 a4 a5 a6 v0 v1 t0 t1 h0 u0 u1 pa rg u9.1 u9.2.1 u9.2.2.1 u9.2.2.2.1 u9.2.2.2.2.1 u9.2.2.2.2.2.1 u9.2.2.2.2.2.2.1 u9.2.2.2.2.2.2.2) [0, 1, 2, 3, 4, 5, 6, 7]) (va_A (fmB (LB cI cC cJ cZ cQ x0 a0 a1 a2 a3 a4 a5 a6 v0 v1 t0 t1 h0 u0 u1 pa rg z nx cnt S wd hv hk hc) [0, 1, 2, 3, 4, 5, 6, 7]) sz)) 0 0 (va_A (fmB (LB cI cC cJ cZ cQ x0 a0 a1 a2 a3 a4 a5 a6 v0 v1 t0 t1 h0 u0 u1 pa rg z nx cnt S wd hv hk hc) [0, 1, 2, 3, 4, 5, 6, 7]) sz) := by
  refine k_metO (Qf := oQi D (fun (r9 : Int32) (u9 : OS) => 1 = r9 ∧ oI u9.1 u9.2.1 u9.2.2.1 u9.2.2.2.1 ∧ (how = 3 ∨ (u9.2.1 = (nx + 1) % 6 ∧ u9.2.2.1 = min (cnt + 1) 6 ∧ u9.2.2.2.1 = updS S nx z))) (fun (u9 : OS) => fmB (LB cI cC cJ cZ cQ x0 a0 a1 a2 a3 a4 a5 a6 v0 v1 t0 t1 h0 u0 u1 pa rg u9.1 u9.2.1 u9.2.2.1 u9.2.2.2.1 u9.2.2.2.2.1 u9.2.2.2.2.2.1 u9.2.2.2.2.2.2.1 u9.2.2.2.2.2.2.2) [0, 1, 2, 3, 4, 5, 6, 7])) (cc := cL_volts) (maxL := 8) (ret := (some .boolean)) (own := RL) (by decide) rfl (Nat.le_of_ble_eq_true rfl) rfl ?_
  intro p e s m args below meth c ls A H locs hx hb hr hts hown hlocks hml hsz hP hK hD hA hS hN hE hO hl
  have hl : lv_has ls 8 [(0, .ref x0), (1, .int (nI how)), (2, .int (nI n))] := hl
  obtain ⟨hw1, hwz, hlz⟩ := zI_b hI.1
  obtain ⟨hnx, hcnt, -⟩ := hI.2
  have hff := zI_f hI.1
  have hhf := zI_hf hI.1
  have hv0 := hI.1.1.1
  have hr0 := hI.1.1.2.1
  have hl0 := hI.1.1.2.2.1
  have ho0 := hI.1.2.1
  refine lv_aload_n hx hb dL_volts_0 rfl (lv_at hl 0 rfl) ?_
  refine lq_v (B0 := (LB cI cC cJ cZ cQ x0 a0 a1 a2 a3 a4 a5 a6 v0 v1 t0 t1 h0 u0 u1 pa rg z nx cnt S wd hv hk hc)) (B1 := (LB cI cC cJ cZ cQ x0 a0 a1 a2 a3 a4 a5 a6 v0 v1 t0 t1 h0 u0 u1 pa rg z nx cnt S wd hv hk hc)) (U := [0, 1, 2, 3, 4, 5, 6, 7]) (isC := [0, 1]) (isR := [2, 3, 4, 5, 6, 7]) (As := []) (rest := []) ⟨hx, hb, hml, hown, hts⟩ (kX7_voltage l D H.size cI cC cJ cZ cQ x0 v0 t0 h0 u0 a0 a1 a2 a3 a4 a5 a6 z) (cwV 0 hts gL_volts_X7_voltage rfl rfl rfl (by decide +kernel) ⟨Nat.le_of_ble_eq_true rfl, Nat.le_of_ble_eq_true rfl⟩) hP hD hK hS hA hN (by decide) rfl rfl rfl 0 7 rfl rfl rfl rfl hl.1 rfl (Nat.le_of_ble_eq_true rfl) dL_volts_1 ⟨Nat.le_of_ble_eq_true rfl, Nat.le_of_ble_eq_true rfl⟩ (fun H locs hP hD hS => ?_)
  refine lv_istore_n (lv' := [(3, .int z.1), (0, .ref x0), (1, .int (nI how)), (2, .int (nI n))]) hx hb dL_volts_4 rfl hl (by decide) rfl (fun ls hl => ?_)
  refine lv_iload_n hx hb dL_volts_5 rfl (lv_at hl 2 rfl) ?_
  refine lv_iconst (v := 2) hx hb dL_volts_6 (by decide) ?_
  refine lv_icmp_ge (tgt := 126) hx hb dL_volts_7 (by decide) (fun c_7 => ?_) (fun c_7 => ?_)
  · have c_7 : 2 ≤ how := (nI_leI (a := 2) (b := how) (by omega) (by omega)).mp c_7
    refine lv_iload_n hx hb dL_volts_126 rfl (lv_at hl 2 rfl) ?_
    refine lv_iconst (v := 2) hx hb dL_volts_127 (by decide) ?_
    refine lv_icmp_ne (tgt := 214) hx hb dL_volts_128 (by decide) (fun c_128 => ?_) (fun c_128 => ?_)
    · have c_128 : ¬ how = 2 := fun h => c_128 ((nI_eq (a := how) (b := 2) (by omega) (by omega)).mpr h)
      refine lv_iload_n hx hb dL_volts_214 rfl (lv_at hl 2 rfl) ?_
      refine lv_iconst (v := 3) hx hb dL_volts_215 (by decide) ?_
      refine lv_icmp_ne (tgt := 291) hx hb dL_volts_216 (by decide) (fun c_216 => ?_) (fun c_216 => ?_)
      · have c_216 : ¬ how = 3 := fun h => c_216 ((nI_eq (a := how) (b := 3) (by omega) (by omega)).mpr h)
        refine lv_iload_n hx hb dL_volts_291 rfl (lv_at hl 3 rfl) ?_
        refine lv_sipush (v := 129) hx hb dL_volts_292 (by decide) ?_
        refine lv_irem hx hb dL_volts_295 (by decide) ?_
        refine k_topi (y := nI (n % 129)) (pk_rem (a := n) (d := 129) (by omega) (by omega) (by omega)) ?_
        refine lv_bipush (v := 64) hx hb dL_volts_296 (by decide) ?_
        refine lv_isub hx hb dL_volts_298 ?_
        have e64 : (64 : Int32).toInt = 64 := by decide
        have hof : (nI (n % 129) - 64).toInt = ((n % 129 : Nat) : Int) - 64 := by
          have e9 : (nI (n % 129)).toInt = ((n % 129 : Nat) : Int) := nI_toInt (by omega)
          rw [i_sub (by rw [e9, e64]; omega) (by rw [e9, e64]; omega), e9, e64]
        refine lv_istore (lv' := [(4, .int ((nI (n % 129)) - 64)), (3, .int z.1), (0, .ref x0), (1, .int (nI how)), (2, .int (nI n))]) hx hb dL_volts_299 hl (by decide) rfl (fun ls hl => ?_)
        refine lv_aload_n hx hb dL_volts_301 rfl (lv_at hl 2 rfl) ?_
        refine lv_bipush (v := 9) hx hb dL_volts_302 (by decide) ?_
        refine lq_v (B0 := (LB cI cC cJ cZ cQ x0 a0 a1 a2 a3 a4 a5 a6 v0 v1 t0 t1 h0 u0 u1 pa rg z nx cnt S wd hv hk hc)) (B1 := (LB cI cC cJ cZ cQ x0 a0 a1 a2 a3 a4 a5 a6 v0 v1 t0 t1 h0 u0 u1 pa rg z nx cnt S wd hv hk hc)) (U := [0, 1, 2, 3, 4, 5, 6, 7]) (isC := [0, 1]) (isR := [2, 3, 4, 5, 6, 7]) (As := [.int 9]) (rest := []) ⟨hx, hb, hml, hown, hts⟩ (kX7_ticksToSettle l D H.size cI cC cJ cZ cQ x0 v0 t0 h0 u0 a0 a1 a2 a3 a4 a5 a6 z 9 (by decide) (by decide)) (cwV 1 hts gL_volts_X7_ticksToSettle rfl rfl rfl (by decide +kernel) ⟨Nat.le_of_ble_eq_true rfl, Nat.le_of_ble_eq_true rfl⟩) hP hD hK hS hA hN (by decide) rfl rfl rfl 0 7 rfl rfl rfl rfl hl.1 rfl (Nat.le_of_ble_eq_true rfl) dL_volts_304 ⟨Nat.le_of_ble_eq_true rfl, Nat.le_of_ble_eq_true rfl⟩ (fun H locs hP hD hS => ?_)
        refine lv_istore (lv' := [(5, .int (nI (tsGo 9 z.2.1 65536 0 z.1))), (4, .int ((nI (n % 129)) - 64)), (3, .int z.1), (0, .ref x0), (1, .int (nI how)), (2, .int (nI n))]) hx hb dL_volts_307 hl (by decide) rfl (fun ls hl => ?_)
        refine lv_aload_n hx hb dL_volts_309 rfl (lv_at hl 3 rfl) ?_
        refine lq_v (B0 := (LB cI cC cJ cZ cQ x0 a0 a1 a2 a3 a4 a5 a6 v0 v1 t0 t1 h0 u0 u1 pa rg z nx cnt S wd hv hk hc)) (B1 := (LB cI cC cJ cZ cQ x0 a0 a1 a2 a3 a4 a5 a6 v0 v1 t0 t1 h0 u0 u1 pa rg z nx cnt S wd hv hk hc)) (U := [0, 1, 2, 3, 4, 5, 6, 7]) (isC := [0, 2, 3]) (isR := [1, 4, 5, 6, 7]) (As := []) (rest := []) ⟨hx, hb, hml, hown, hts⟩ (kX7_savedStates l D H.size cI cC cJ cZ cQ x0 v0 t0 h0 u0 a0 v1 nx cnt rg) (cwV 0 hts gL_volts_X7_savedStates rfl rfl rfl (by decide +kernel) ⟨Nat.le_of_ble_eq_true rfl, Nat.le_of_ble_eq_true rfl⟩) hP hD hK hS hA hN (by decide) rfl rfl rfl 0 7 rfl rfl rfl rfl hl.1 rfl (Nat.le_of_ble_eq_true rfl) dL_volts_310 ⟨Nat.le_of_ble_eq_true rfl, Nat.le_of_ble_eq_true rfl⟩ (fun H locs hP hD hS => ?_)
        refine lv_istore (lv' := [(6, .int (nI cnt)), (5, .int (nI (tsGo 9 z.2.1 65536 0 z.1))), (4, .int ((nI (n % 129)) - 64)), (3, .int z.1), (0, .ref x0), (1, .int (nI how)), (2, .int (nI n))]) hx hb dL_volts_313 hl (by decide) rfl (fun ls hl => ?_)
        refine lv_aload_n hx hb dL_volts_315 rfl (lv_at hl 4 rfl) ?_
        refine lv_iload hx hb dL_volts_316 (lv_at hl 2 rfl) ?_
        refine lq_s (B0 := (LB cI cC cJ cZ cQ x0 a0 a1 a2 a3 a4 a5 a6 v0 v1 t0 t1 h0 u0 u1 pa rg z nx cnt S wd hv hk hc)) (B1 := (LB cI cC cJ cZ cQ x0 a0 a1 a2 a3 a4 a5 a6 v0 v1 t0 t1 h0 u0 u1 pa rg (z.1, z.2.1, z.2.2.1, (nI (n % 129)) - 64, z.2.2.2.2) ((nx + 1) % 6) (min (cnt + 1) 6) (updS S nx z) wd hv hk hc)) (U := [0, 1, 2, 3, 4, 5, 6, 7]) (isC := [0, 1, 2, 3, 4]) (isR := [5, 6, 7]) (As := [.ref x0, .int ((nI (n % 129)) - 64)]) (rest := []) ⟨hx, hb, hml, hown, hts⟩ (kL_setsOffset_ok l D H.size cI cC cJ cZ cQ x0 v0 t0 h0 u0 a0 a1 a2 a3 a4 a5 a6 z v1 nx cnt pa S rg ((nI (n % 129)) - 64) hnx hcnt hrg (c_lt (b := -64) (by decide) (by omega)) (c_le (b := 64) (by decide) (by omega)) (c_lt (b := -64) (by decide) ho0.1)) (vx_cwSW 2 hts gL_volts_L_setsOffset rfl rfl rfl (by decide +kernel) ⟨Nat.le_of_ble_eq_true rfl, Nat.le_of_ble_eq_true rfl⟩) hP hD hK hS hA hN (by decide) rfl rfl rfl rfl hl.1 rfl (Nat.le_of_ble_eq_true rfl) dL_volts_318 ⟨Nat.le_of_ble_eq_true rfl, Nat.le_of_ble_eq_true rfl⟩ (fun H locs hP hD hS => ?_)
        have hP : va_P D vwCl (fmB (LB cI cC cJ cZ cQ x0 a0 a1 a2 a3 a4 a5 a6 v0 v1 t0 t1 h0 u0 u1 pa rg (z.1, z.2.1, z.2.2.1, (nI (n % 129)) - 64, z.2.2.2.2) ((nx + 1) % 6) (min (cnt + 1) 6) (updS S nx z) wd hv hk hc) [0, 1, 2, 3, 4, 5, 6, 7]) H := hP
        have hD : va_D A (fmB (LB cI cC cJ cZ cQ x0 a0 a1 a2 a3 a4 a5 a6 v0 v1 t0 t1 h0 u0 u1 pa rg (z.1, z.2.1, z.2.2.1, (nI (n % 129)) - 64, z.2.2.2.2) ((nx + 1) % 6) (min (cnt + 1) 6) (updS S nx z) wd hv hk hc) [0, 1, 2, 3, 4, 5, 6, 7]) := hD
        obtain ⟨z1, hz1⟩ : ∃ q9 : StV, q9 = (z.1, z.2.1, z.2.2.1, (nI (n % 129)) - 64, z.2.2.2.2) := ⟨_, rfl⟩
        rw [← hz1] at hP hD
        have hP : va_P D vwCl (fmB (LB cI cC cJ cZ cQ x0 a0 a1 a2 a3 a4 a5 a6 v0 v1 t0 t1 h0 u0 u1 pa rg z1 ((nx + 1) % 6) (min (cnt + 1) 6) (updS S nx z) wd hv hk hc) [0, 1, 2, 3, 4, 5, 6, 7]) H := hP
        have hD : va_D A (fmB (LB cI cC cJ cZ cQ x0 a0 a1 a2 a3 a4 a5 a6 v0 v1 t0 t1 h0 u0 u1 pa rg z1 ((nx + 1) % 6) (min (cnt + 1) 6) (updS S nx z) wd hv hk hc) [0, 1, 2, 3, 4, 5, 6, 7]) := hD
        have hz9 : zI z1 := by subst hz1; exact zI_off hI.1 (by omega)
        refine lv_if_eq (tgt := 344) hx hb dL_volts_321 (by decide) (fun h => absurd h (by decide)) (fun _ => ?_)
        refine lv_aload_n hx hb dL_volts_324 rfl (lv_at hl 4 rfl) ?_
        refine lv_bipush (v := 9) hx hb dL_volts_325 (by decide) ?_
        refine lq_v (B0 := (LB cI cC cJ cZ cQ x0 a0 a1 a2 a3 a4 a5 a6 v0 v1 t0 t1 h0 u0 u1 pa rg z1 ((nx + 1) % 6) (min (cnt + 1) 6) (updS S nx z) wd hv hk hc)) (B1 := (LB cI cC cJ cZ cQ x0 a0 a1 a2 a3 a4 a5 a6 v0 v1 t0 t1 h0 u0 u1 pa rg z1 ((nx + 1) % 6) (min (cnt + 1) 6) (updS S nx z) wd hv hk hc)) (U := [0, 1, 2, 3, 4, 5, 6, 7]) (isC := [0, 1]) (isR := [2, 3, 4, 5, 6, 7]) (As := [.int 9]) (rest := []) ⟨hx, hb, hml, hown, hts⟩ (kX7_ticksToSettle l D H.size cI cC cJ cZ cQ x0 v0 t0 h0 u0 a0 a1 a2 a3 a4 a5 a6 z1 9 (by decide) (by decide)) (cwV 1 hts gL_volts_X7_ticksToSettle rfl rfl rfl (by decide +kernel) ⟨Nat.le_of_ble_eq_true rfl, Nat.le_of_ble_eq_true rfl⟩) hP hD hK hS hA hN (by decide) rfl rfl rfl 0 7 rfl rfl rfl rfl hl.1 rfl (Nat.le_of_ble_eq_true rfl) dL_volts_327 ⟨Nat.le_of_ble_eq_true rfl, Nat.le_of_ble_eq_true rfl⟩ (fun H locs hP hD hS => ?_)
        refine k_topi (y := nI (tsGo 9 z.2.1 65536 0 z.1)) (by subst hz1; rfl) ?_
        refine lv_iload hx hb dL_volts_330 (lv_at hl 1 rfl) ?_
        refine lv_icmp_ne (tgt := 344) hx hb dL_volts_332 (by decide) (fun c_332 => ?_) (fun c_332 => ?_)
        · exact absurd rfl c_332
        · refine lv_iload hx hb dL_volts_335 (lv_at hl 0 rfl) ?_
          refine lv_if_lt (tgt := 344) hx hb dL_volts_337 (by decide) (fun c_337 => ?_) (fun c_337 => ?_)
          · have c_337 : cnt < 0 := (nI_ltI (a := cnt) (b := 0) (by omega) (by omega)).mp c_337
            omega
          · have c_337 : ¬ cnt < 0 := fun h => c_337 ((nI_ltI (a := cnt) (b := 0) (by omega) (by omega)).mpr h)
            refine lv_iconst (v := 1) hx hb dL_volts_340 (by decide) ?_
            refine lv_goto (tgt := 345) hx hb dL_volts_341 (by decide) ?_
            exact kr_oz (u := (z1, (nx + 1) % 6, min (cnt + 1) 6, updS S nx z, wd, hv, hk, hc)) (v := 1) hx hb hr hlocks rfl hP hD hS ⟨rfl, oI_push hI hz9, Or.inr ⟨rfl, rfl, rfl⟩⟩ dL_volts_345
      · have c_216 : how = 3 := (nI_eq (a := how) (b := 3) (by omega) (by omega)).mp c_216
        omega
    · have c_128 : how = 2 := (nI_eq (a := how) (b := 2) (by omega) (by omega)).mp c_128
      omega
  · have c_7 : ¬ 2 ≤ how := fun h => c_7 ((nI_leI (a := 2) (b := how) (by omega) (by omega)).mpr h)
    omega

abbrev rmmL_volts : Room := { frames := 6, cells := 0, slots := 0, locals := 170 }
theorem mL_volts (l : Launch) (hst : l.stackTraces = false) (D : va_G) (sz : Nat) (cI : ClassId) (cC : ClassId) (cJ : ClassId) (cZ : ClassId) (cQ : ClassId) (x0 : Nat) (a0 : Nat) (a1 : Nat) (a2 : Nat) (a3 : Nat) (a4 : Nat) (a5 : Nat) (a6 : Nat) (v0 : Nat) (v1 : Nat) (t0 : Nat) (t1 : Nat) (h0 : Nat) (u0 : Nat) (u1 : Nat) (pa : Nat → Nat) (rg : Nat → Option Nat) (z : StV) (nx : Nat) (cnt : Nat) (S : Nat → StV) (wd : Nat → Int64) (hv : Int32) (hk : Int32) (hc : Int32) (how : Nat) (n : Nat) (hI : oI z nx cnt S) (hrg : rgOK rg pa) (hn : n < 2147483648) (hh : how ≤ 4) : Met l yL_volts wsL_volts rmmL_volts (va_Pc [.ref x0, .int (nI how), .int (nI n)] (oPre D sz (fmB (LB cI cC cJ cZ cQ x0 a0 a1 a2 a3 a4 a5 a6 v0 v1 t0 t1 h0 u0 u1 pa rg z nx cnt S wd hv hk hc) [0, 1, 2, 3, 4, 5, 6, 7]) (kT cI cC cJ cZ cQ))) (oQi D (fun (r9 : Int32) (u9 : OS) => 1 = r9 ∧ oI u9.1 u9.2.1 u9.2.2.1 u9.2.2.2.1 ∧ (how = 3 ∨ (u9.2.1 = (nx + 1) % 6 ∧ u9.2.2.1 = min (cnt + 1) 6 ∧ u9.2.2.2.1 = updS S nx z))) (fun (u9 : OS) => fmB (LB cI cC cJ cZ cQ x0 a0 a1 a2 a3 a4 a5 a6 v0 v1 t0 t1 h0 u0 u1 pa rg u9.1 u9.2.1 u9.2.2.1 u9.2.2.2.1 u9.2.2.2.2.1 u9.2.2.2.2.2.1 u9.2.2.2.2.2.2.1 u9.2.2.2.2.2.2.2) [0, 1, 2, 3, 4, 5, 6, 7]) (va_A (fmB (LB cI cC cJ cZ cQ x0 a0 a1 a2 a3 a4 a5 a6 v0 v1 t0 t1 h0 u0 u1 pa rg z nx cnt S wd hv hk hc) [0, 1, 2, 3, 4, 5, 6, 7]) sz)) 0 0 (va_A (fmB (LB cI cC cJ cZ cQ x0 a0 a1 a2 a3 a4 a5 a6 v0 v1 t0 t1 h0 u0 u1 pa rg z nx cnt S wd hv hk hc) [0, 1, 2, 3, 4, 5, 6, 7]) sz) := by
  rcases (show how < 2 ∨ how = 2 ∨ how = 3 ∨ how = 4 from by omega) with q | q | q | q
  · exact mL_volts0 l hst D sz cI cC cJ cZ cQ x0 a0 a1 a2 a3 a4 a5 a6 v0 v1 t0 t1 h0 u0 u1 pa rg z nx cnt S wd hv hk hc how n hI hrg hn q
  · exact mL_volts2 l hst D sz cI cC cJ cZ cQ x0 a0 a1 a2 a3 a4 a5 a6 v0 v1 t0 t1 h0 u0 u1 pa rg z nx cnt S wd hv hk hc how n hI hrg hn q
  · exact mL_volts3 l hst D sz cI cC cJ cZ cQ x0 a0 a1 a2 a3 a4 a5 a6 v0 v1 t0 t1 h0 u0 u1 pa rg z nx cnt S wd hv hk hc how n hI hrg hn q
  · exact mL_volts4 l hst D sz cI cC cJ cZ cQ x0 a0 a1 a2 a3 a4 a5 a6 v0 v1 t0 t1 h0 u0 u1 pa rg z nx cnt S wd hv hk hc how n hI hrg hn q
