/-! the law's own body, in stages; laid by program (wip/p36/gen/specs_law.py) -/
theorem lf_ok {a b : Nat} (h : a ≤ 649488) (h2 : b ≤ 7152719) : a ≤ room_1.cells ∧ b ≤ room_1.slots := ⟨h, h2⟩
def digP (z : StV) : Int64 := digL z.2.2.2.2.2.2.2.2.1 z.2.2.2.2.2.2.2.2.2.1 z.2.2.2.2.2.2.2.2.2.2 (digW z.2.2.2.2.2.2.2.1 z.2.2.2.2.2.1 (mixD (mixD (mixD (mixD (mixD (mixD (mixD (mixD 8399 z.1) (nI z.2.2.2.2.2.1)) (sumW z.2.2.2.2.2.2.2.1 z.2.2.2.2.2.1)) ((wgS z.2.2.2.2.2.2.2.1 z.2.2.1 z.2.2.2.1 z.2.2.2.2.1 z.1 z.2.2.2.2.2.1).2.2)) (cntL (fillG z.2.2.2.2.2.2.2.1 z.2.2.2.2.2.1) 64)) (nI (lmGo (fillG z.2.2.2.2.2.2.2.1 z.2.2.2.2.2.1) 4095 1))) (tcGo z.2.2.2.2.2.2.2.1 z.2.2.2.2.2.1 z.2.2.1 (wgS z.2.2.2.2.2.2.2.1 0 0 0 z.1 z.2.2.2.2.2.1).2.2 200 1 z.1)) (nI z.2.2.2.2.2.2.1)) z.2.2.2.2.2.1) z.2.2.2.2.2.2.1
set_option maxHeartbeats 8000000 in
set_option maxRecDepth 100000 in
theorem lb_1 {p : Program} {l : Launch} {e : Env} {s : State} {m : MethodId} {args : Array Value} {below : List Frame} {meth : Method} {c : Code} {A : Nat → Prop} {H : Heap} {locs : List Loc} {ls : Array Slot} {cells slots : Nat} {Q : State → Prop} {D : va_G} {cI cC cJ cZ cQ : ClassId} {x0 a0 a1 a2 a3 a4 a5 a6 v0 v1 t0 t1 h0 u0 u1 : Nat} {pa : Nat → Nat} {rg : Nat → Option Nat} {z : StV} {nx cnt : Nat} {S : Nat → StV} {wd : Nat → Int64} {hv hk hc : Int32} {b : Nat} {i : Nat} {x : Nat} (hx : p.tables.exec = Jvm.exec) (hb : c.code = cL_law) (hml : c.maxLocals = 15) (hown : s.vm.findClass RL = some m.cls) (hts : ∀ w ∈ wsL_law, w.before args s = true) (hst : l.stackTraces = false) (hK : va_K D vwCl (kT cI cC cJ cZ cQ) s) (hN : kN s) (hE : kE A s s.heap) (hO : kO s) (hA : ∀ q, s.heap.size ≤ q → A q) (hrg : rgOK rg pa) (hP : va_P D vwCl (fmB (LB cI cC cJ cZ cQ x0 a0 a1 a2 a3 a4 a5 a6 v0 v1 t0 t1 h0 u0 u1 pa rg z nx cnt S wd hv hk hc) [0, 1, 2, 3, 4, 5, 6, 7]) H) (hD : va_D A (fmB (LB cI cC cJ cZ cQ x0 a0 a1 a2 a3 a4 a5 a6 v0 v1 t0 t1 h0 u0 u1 pa rg z nx cnt S wd hv hk hc) [0, 1, 2, 3, 4, 5, 6, 7])) (hS : va_S A s.heap H locs) (hI : oI z nx cnt S) (hi : i < 50) (hx0 : x < 2147483648) (hl : lv_has ls 15 [(3, .int (nI i)), (2, .int 1), (1, .ref x0), (0, .ref b)]) (hfc : cells + 100 ≤ 649488) (hfs : slots + 600 ≤ 7152719)
    (K : ∀ (H : Heap) (locs : List Loc) (ls : Array Slot) (wd : Nat → Int64) (hv hk hc hb9 : Int32) (hx9 : Int64), (hb9 = 0 ∨ hx9 = digP z) → va_P D vwCl (fmB (LB cI cC cJ cZ cQ x0 a0 a1 a2 a3 a4 a5 a6 v0 v1 t0 t1 h0 u0 u1 pa rg z nx cnt S wd hv hk hc) [0, 1, 2, 3, 4, 5, 6, 7]) H → va_D A (fmB (LB cI cC cJ cZ cQ x0 a0 a1 a2 a3 a4 a5 a6 v0 v1 t0 t1 h0 u0 u1 pa rg z nx cnt S wd hv hk hc) [0, 1, 2, 3, 4, 5, 6, 7]) → va_S A s.heap H locs → lv_has ls 15 [(12, .int (nI cnt)), (10, .long hx9), (9, .int hb9), (7, .long (seenP z)), (6, .int (nI (x / 12))), (5, .int (nI (x % 12))), (4, .int (nI x)), (3, .int (nI i)), (2, .int 1), (1, .ref x0), (0, .ref b)] → W p l e room_1 s m args below meth c H locs cells slots Q (F0 m 141 ls [])) : W p l e room_1 s m args below meth c H locs cells slots Q (F0 m 84 ls [.int (nI x)]) := by
  obtain ⟨hw1, hwz, hlz⟩ := zI_b hI.1
  obtain ⟨hnx, hcnt, -⟩ := hI.2
  have hff := zI_f hI.1
  have hhf := zI_hf hI.1
  refine lv_istore (lv' := [(4, .int (nI x)), (3, .int (nI i)), (2, .int 1), (1, .ref x0), (0, .ref b)]) hx hb dL_law_84 hl (by decide) rfl (fun ls hl => ?_)
  refine lv_iload hx hb dL_law_86 (lv_at hl 0 rfl) ?_
  refine lv_bipush (v := 12) hx hb dL_law_88 (by decide) ?_
  refine lv_irem hx hb dL_law_90 (by decide) ?_
  refine k_topi (y := nI (x % 12)) (pk_rem (a := x) (d := 12) (by omega) (by omega) (by omega)) ?_
  refine lv_istore (lv' := [(5, .int (nI (x % 12))), (4, .int (nI x)), (3, .int (nI i)), (2, .int 1), (1, .ref x0), (0, .ref b)]) hx hb dL_law_91 hl (by decide) rfl (fun ls hl => ?_)
  refine lv_iload hx hb dL_law_93 (lv_at hl 1 rfl) ?_
  refine lv_bipush (v := 12) hx hb dL_law_95 (by decide) ?_
  refine lv_idiv hx hb dL_law_97 (by decide) ?_
  refine k_topi (y := nI (x / 12)) (pk_div (a := x) (d := 12) (by omega) (by omega) (by omega)) ?_
  refine lv_istore (lv' := [(6, .int (nI (x / 12))), (5, .int (nI (x % 12))), (4, .int (nI x)), (3, .int (nI i)), (2, .int 1), (1, .ref x0), (0, .ref b)]) hx hb dL_law_98 hl (by decide) rfl (fun ls hl => ?_)
  refine lv_aload_n hx hb dL_law_100 rfl (lv_at hl 5 rfl) ?_
  refine lq_ol (B0 := (LB cI cC cJ cZ cQ x0 a0 a1 a2 a3 a4 a5 a6 v0 v1 t0 t1 h0 u0 u1 pa rg z nx cnt S wd hv hk hc)) (B1 := fun u9 => LB cI cC cJ cZ cQ x0 a0 a1 a2 a3 a4 a5 a6 v0 v1 t0 t1 h0 u0 u1 pa rg u9.1 u9.2.1 u9.2.2.1 u9.2.2.2.1 u9.2.2.2.2.1 u9.2.2.2.2.2.1 u9.2.2.2.2.2.2.1 u9.2.2.2.2.2.2.2) (U := [0, 1, 2, 3, 4, 5, 6, 7]) (As := [.ref x0]) (rest := []) ⟨hx, hb, hml, hown, hts⟩ (mL_seen l hst D H.size cI cC cJ cZ cQ x0 a0 a1 a2 a3 a4 a5 a6 v0 v1 t0 t1 h0 u0 u1 pa rg z nx cnt S wd hv hk hc (by first | assumption | omega) (by first | assumption | omega)) (va_cwS 1 hts gL_law_L_seen rfl rfl rfl (by decide +kernel) ⟨Nat.le_of_ble_eq_true rfl, Nat.le_of_ble_eq_true rfl⟩) hP hD hK hS hA hN hE hO (fun _ => rfl) rfl hl.1 rfl (Nat.le_of_ble_eq_true rfl) dL_law_101 (lf_ok (by omega) (by omega)) (fun r_1 u_1 H locs hr_1 hP hD hS => ?_)
  obtain ⟨z_1, nx_1, cnt_1, S_1, wd_1, hv_1, hk_1, hc_1⟩ := u_1
  have hP : va_P D vwCl (fmB (LB cI cC cJ cZ cQ x0 a0 a1 a2 a3 a4 a5 a6 v0 v1 t0 t1 h0 u0 u1 pa rg z_1 nx_1 cnt_1 S_1 wd_1 hv_1 hk_1 hc_1) [0, 1, 2, 3, 4, 5, 6, 7]) H := hP
  have hD : va_D A (fmB (LB cI cC cJ cZ cQ x0 a0 a1 a2 a3 a4 a5 a6 v0 v1 t0 t1 h0 u0 u1 pa rg z_1 nx_1 cnt_1 S_1 wd_1 hv_1 hk_1 hc_1) [0, 1, 2, 3, 4, 5, 6, 7]) := hD
  have hr_1 : (seenP z) = r_1 ∧ z = z_1 ∧ nx = nx_1 ∧ cnt = cnt_1 ∧ S = S_1 := hr_1
  obtain ⟨rfl, rfl, rfl, rfl, rfl⟩ := hr_1
  have hP : va_P D vwCl (fmB (LB cI cC cJ cZ cQ x0 a0 a1 a2 a3 a4 a5 a6 v0 v1 t0 t1 h0 u0 u1 pa rg z nx cnt S wd_1 hv_1 hk_1 hc_1) [0, 1, 2, 3, 4, 5, 6, 7]) H := hP
  have hD : va_D A (fmB (LB cI cC cJ cZ cQ x0 a0 a1 a2 a3 a4 a5 a6 v0 v1 t0 t1 h0 u0 u1 pa rg z nx cnt S wd_1 hv_1 hk_1 hc_1) [0, 1, 2, 3, 4, 5, 6, 7]) := hD
  refine lv_lstore (lv' := [(7, .long (seenP z)), (6, .int (nI (x / 12))), (5, .int (nI (x % 12))), (4, .int (nI x)), (3, .int (nI i)), (2, .int 1), (1, .ref x0), (0, .ref b)]) hx hb dL_law_104 hl (by decide) rfl (fun ls hl => ?_)
  refine lv_iload_n hx hb dL_law_106 rfl (lv_at hl 4 rfl) ?_
  refine lv_iconst (v := 5) hx hb dL_law_107 (by decide) ?_
  refine lv_irem hx hb dL_law_108 (by decide) ?_
  refine k_topi (y := nI (i % 5)) (pk_rem (a := i) (d := 5) (by omega) (by omega) (by omega)) ?_
  refine lv_iconst (v := 4) hx hb dL_law_109 (by decide) ?_
  refine lv_icmp_ne (tgt := 117) hx hb dL_law_110 (by decide) (fun c_110 => ?_) (fun c_110 => ?_)
  · have c_110 : ¬ (i % 5) = 4 := fun h => c_110 ((nI_eq (a := (i % 5)) (b := 4) (by omega) (by omega)).mpr h)
    refine lv_iconst (v := 0) hx hb dL_law_117 (by decide) ?_
    refine lv_istore (lv' := [(9, .int 0), (7, .long (seenP z)), (6, .int (nI (x / 12))), (5, .int (nI (x % 12))), (4, .int (nI x)), (3, .int (nI i)), (2, .int 1), (1, .ref x0), (0, .ref b)]) hx hb dL_law_118 hl (by decide) rfl (fun ls hl => ?_)
    refine lv_iload hx hb dL_law_120 (lv_at hl 0 rfl) ?_
    refine lv_if_eq (tgt := 132) hx hb dL_law_122 (by decide) (fun _ => ?_) (fun h => absurd h (by decide))
    refine lv_lconst (v := 0) hx hb dL_law_132 rfl ?_
    refine lv_lstore (lv' := [(10, .long 0), (9, .int 0), (7, .long (seenP z)), (6, .int (nI (x / 12))), (5, .int (nI (x % 12))), (4, .int (nI x)), (3, .int (nI i)), (2, .int 1), (1, .ref x0), (0, .ref b)]) hx hb dL_law_133 hl (by decide) rfl (fun ls hl => ?_)
    refine lv_aload_n hx hb dL_law_135 rfl (lv_at hl 8 rfl) ?_
    refine lq_v (B0 := (LB cI cC cJ cZ cQ x0 a0 a1 a2 a3 a4 a5 a6 v0 v1 t0 t1 h0 u0 u1 pa rg z nx cnt S wd_1 hv_1 hk_1 hc_1)) (B1 := (LB cI cC cJ cZ cQ x0 a0 a1 a2 a3 a4 a5 a6 v0 v1 t0 t1 h0 u0 u1 pa rg z nx cnt S wd_1 hv_1 hk_1 hc_1)) (U := [0, 1, 2, 3, 4, 5, 6, 7]) (isC := [0, 2, 3]) (isR := [1, 4, 5, 6, 7]) (As := []) (rest := []) ⟨hx, hb, hml, hown, hts⟩ (kX7_savedStates l D H.size cI cC cJ cZ cQ x0 v0 t0 h0 u0 a0 v1 nx cnt rg) (cwV 0 hts gL_law_X7_savedStates rfl rfl rfl (by decide +kernel) ⟨Nat.le_of_ble_eq_true rfl, Nat.le_of_ble_eq_true rfl⟩) hP hD hK hS hA hN (by decide) rfl rfl rfl 0 7 rfl rfl rfl rfl hl.1 rfl (Nat.le_of_ble_eq_true rfl) dL_law_136 (lf_ok (by omega) (by omega)) (fun H locs hP hD hS => ?_)
    refine lv_istore (lv' := [(12, .int (nI cnt)), (10, .long 0), (9, .int 0), (7, .long (seenP z)), (6, .int (nI (x / 12))), (5, .int (nI (x % 12))), (4, .int (nI x)), (3, .int (nI i)), (2, .int 1), (1, .ref x0), (0, .ref b)]) hx hb dL_law_139 hl (by decide) rfl (fun ls hl => ?_)
    exact K _ _ _ wd_1 hv_1 hk_1 hc_1 _ _ (by first | exact Or.inl rfl | exact Or.inr rfl) hP hD hS (lv_sub hl [0, 1, 2, 3, 4, 5, 6, 7, 8, 9, 10] rfl)
  · have c_110 : (i % 5) = 4 := (nI_eq (a := (i % 5)) (b := 4) (by omega) (by omega)).mp c_110
    refine lv_iconst (v := 1) hx hb dL_law_113 (by decide) ?_
    refine lv_goto (tgt := 118) hx hb dL_law_114 (by decide) ?_
    refine lv_istore (lv' := [(9, .int 1), (7, .long (seenP z)), (6, .int (nI (x / 12))), (5, .int (nI (x % 12))), (4, .int (nI x)), (3, .int (nI i)), (2, .int 1), (1, .ref x0), (0, .ref b)]) hx hb dL_law_118 hl (by decide) rfl (fun ls hl => ?_)
    refine lv_iload hx hb dL_law_120 (lv_at hl 0 rfl) ?_
    refine lv_if_eq (tgt := 132) hx hb dL_law_122 (by decide) (fun h => absurd h (by decide)) (fun _ => ?_)
    refine lv_aload_n hx hb dL_law_125 rfl (lv_at hl 7 rfl) ?_
    refine lq_lx (B0 := (LB cI cC cJ cZ cQ x0 a0 a1 a2 a3 a4 a5 a6 v0 v1 t0 t1 h0 u0 u1 pa rg z nx cnt S wd_1 hv_1 hk_1 hc_1)) (B1 := (fun u_4 => LB cI cC cJ cZ cQ x0 a0 a1 a2 a3 a4 a5 a6 v0 v1 t0 t1 h0 u0 u1 pa rg z nx cnt S (fillG z.2.2.2.2.2.2.2.1 z.2.2.2.2.2.1) u_4.1 u_4.2.1 u_4.2.2)) (U := [0, 1, 2, 3, 4, 5, 6, 7]) (isC := [0, 1, 6, 7]) (isR := [2, 3, 4, 5]) (As := []) (rest := []) ⟨hx, hb, hml, hown, hts⟩ (kX7_digest l D H.size cI cC cJ cZ cQ x0 v0 t0 h0 u0 a0 a1 a2 a3 a4 a5 a6 z hv_1 hk_1 hc_1 u1 wd_1 hwz hlz hhf) (cwV 0 hts gL_law_X7_digest rfl rfl rfl (by decide +kernel) ⟨Nat.le_of_ble_eq_true rfl, Nat.le_of_ble_eq_true rfl⟩) hP hD hK hS hA hN (by decide) rfl (fun _ => rfl) (fun _ => rfl) 0 7 rfl rfl rfl rfl hl.1 rfl (Nat.le_of_ble_eq_true rfl) dL_law_126 (lf_ok (by omega) (by omega)) (fun u_4 H locs hP hD hS => ?_)
    have hP : va_P D vwCl (fmB (LB cI cC cJ cZ cQ x0 a0 a1 a2 a3 a4 a5 a6 v0 v1 t0 t1 h0 u0 u1 pa rg z nx cnt S (fillG z.2.2.2.2.2.2.2.1 z.2.2.2.2.2.1) u_4.1 u_4.2.1 u_4.2.2) [0, 1, 2, 3, 4, 5, 6, 7]) H := hP
    have hD : va_D A (fmB (LB cI cC cJ cZ cQ x0 a0 a1 a2 a3 a4 a5 a6 v0 v1 t0 t1 h0 u0 u1 pa rg z nx cnt S (fillG z.2.2.2.2.2.2.2.1 z.2.2.2.2.2.1) u_4.1 u_4.2.1 u_4.2.2) [0, 1, 2, 3, 4, 5, 6, 7]) := hD
    refine k_topl (y := digP z) rfl ?_
    refine lv_goto (tgt := 133) hx hb dL_law_129 (by decide) ?_
    refine lv_lstore (lv' := [(10, .long (digP z)), (9, .int 1), (7, .long (seenP z)), (6, .int (nI (x / 12))), (5, .int (nI (x % 12))), (4, .int (nI x)), (3, .int (nI i)), (2, .int 1), (1, .ref x0), (0, .ref b)]) hx hb dL_law_133 hl (by decide) rfl (fun ls hl => ?_)
    refine lv_aload_n hx hb dL_law_135 rfl (lv_at hl 8 rfl) ?_
    refine lq_v (B0 := (LB cI cC cJ cZ cQ x0 a0 a1 a2 a3 a4 a5 a6 v0 v1 t0 t1 h0 u0 u1 pa rg z nx cnt S (fillG z.2.2.2.2.2.2.2.1 z.2.2.2.2.2.1) u_4.1 u_4.2.1 u_4.2.2)) (B1 := (LB cI cC cJ cZ cQ x0 a0 a1 a2 a3 a4 a5 a6 v0 v1 t0 t1 h0 u0 u1 pa rg z nx cnt S (fillG z.2.2.2.2.2.2.2.1 z.2.2.2.2.2.1) u_4.1 u_4.2.1 u_4.2.2)) (U := [0, 1, 2, 3, 4, 5, 6, 7]) (isC := [0, 2, 3]) (isR := [1, 4, 5, 6, 7]) (As := []) (rest := []) ⟨hx, hb, hml, hown, hts⟩ (kX7_savedStates l D H.size cI cC cJ cZ cQ x0 v0 t0 h0 u0 a0 v1 nx cnt rg) (cwV 0 hts gL_law_X7_savedStates rfl rfl rfl (by decide +kernel) ⟨Nat.le_of_ble_eq_true rfl, Nat.le_of_ble_eq_true rfl⟩) hP hD hK hS hA hN (by decide) rfl rfl rfl 0 7 rfl rfl rfl rfl hl.1 rfl (Nat.le_of_ble_eq_true rfl) dL_law_136 (lf_ok (by omega) (by omega)) (fun H locs hP hD hS => ?_)
    refine lv_istore (lv' := [(12, .int (nI cnt)), (10, .long (digP z)), (9, .int 1), (7, .long (seenP z)), (6, .int (nI (x / 12))), (5, .int (nI (x % 12))), (4, .int (nI x)), (3, .int (nI i)), (2, .int 1), (1, .ref x0), (0, .ref b)]) hx hb dL_law_139 hl (by decide) rfl (fun ls hl => ?_)
    exact K _ _ _ (fillG z.2.2.2.2.2.2.2.1 z.2.2.2.2.2.1) u_4.1 u_4.2.1 u_4.2.2 _ _ (by first | exact Or.inl rfl | exact Or.inr rfl) hP hD hS (lv_sub hl [0, 1, 2, 3, 4, 5, 6, 7, 8, 9, 10] rfl)

set_option maxHeartbeats 8000000 in
set_option maxRecDepth 100000 in
theorem lb_2 {p : Program} {l : Launch} {e : Env} {s : State} {m : MethodId} {args : Array Value} {below : List Frame} {meth : Method} {c : Code} {A : Nat → Prop} {H : Heap} {locs : List Loc} {ls : Array Slot} {cells slots : Nat} {Q : State → Prop} {D : va_G} {cI cC cJ cZ cQ : ClassId} {x0 a0 a1 a2 a3 a4 a5 a6 v0 v1 t0 t1 h0 u0 u1 : Nat} {pa : Nat → Nat} {rg : Nat → Option Nat} {z : StV} {nx cnt : Nat} {S : Nat → StV} {wd : Nat → Int64} {hv hk hc : Int32} {b : Nat} {i : Nat} {x : Nat} {w7 : Int64} {hx9 : Int64} {hb9 : Int32} (hx : p.tables.exec = Jvm.exec) (hb : c.code = cL_law) (hml : c.maxLocals = 15) (hown : s.vm.findClass RL = some m.cls) (hts : ∀ w ∈ wsL_law, w.before args s = true) (hst : l.stackTraces = false) (hK : va_K D vwCl (kT cI cC cJ cZ cQ) s) (hN : kN s) (hE : kE A s s.heap) (hO : kO s) (hA : ∀ q, s.heap.size ≤ q → A q) (hrg : rgOK rg pa) (hP : va_P D vwCl (fmB (LB cI cC cJ cZ cQ x0 a0 a1 a2 a3 a4 a5 a6 v0 v1 t0 t1 h0 u0 u1 pa rg z nx cnt S wd hv hk hc) [0, 1, 2, 3, 4, 5, 6, 7]) H) (hD : va_D A (fmB (LB cI cC cJ cZ cQ x0 a0 a1 a2 a3 a4 a5 a6 v0 v1 t0 t1 h0 u0 u1 pa rg z nx cnt S wd hv hk hc) [0, 1, 2, 3, 4, 5, 6, 7])) (hS : va_S A s.heap H locs) (hI : oI z nx cnt S) (hi : i < 50) (hx0 : x < 2147483648) (hl : lv_has ls 15 [(12, .int (nI cnt)), (10, .long hx9), (9, .int hb9), (7, .long w7), (6, .int (nI (x / 12))), (5, .int (nI (x % 12))), (4, .int (nI x)), (3, .int (nI i)), (2, .int 1), (1, .ref x0), (0, .ref b)]) (hfc : cells + 100 ≤ 649488) (hfs : slots + 600 ≤ 7152719)
    (K : ∀ (cells1 slots1 : Nat) (H : Heap) (locs : List Loc) (ls : Array Slot) (z' : StV) (nx' cnt' : Nat) (S' : Nat → StV) (wd : Nat → Int64) (hv hk hc : Int32), cells1 ≤ cells + 40 → slots1 ≤ slots + 240 → oI z' nx' cnt' S' → (x % 12 = 3 ∨ x % 12 = 5 ∨ (nx' = (nx + 1) % 6 ∧ cnt' = min (cnt + 1) 6 ∧ S' = updS S nx z)) → va_P D vwCl (fmB (LB cI cC cJ cZ cQ x0 a0 a1 a2 a3 a4 a5 a6 v0 v1 t0 t1 h0 u0 u1 pa rg z' nx' cnt' S' wd hv hk hc) [0, 1, 2, 3, 4, 5, 6, 7]) H → va_D A (fmB (LB cI cC cJ cZ cQ x0 a0 a1 a2 a3 a4 a5 a6 v0 v1 t0 t1 h0 u0 u1 pa rg z' nx' cnt' S' wd hv hk hc) [0, 1, 2, 3, 4, 5, 6, 7]) → va_S A s.heap H locs → lv_has ls 15 [(12, .int (nI cnt)), (10, .long hx9), (9, .int hb9), (7, .long w7), (6, .int (nI (x / 12))), (5, .int (nI (x % 12))), (4, .int (nI x)), (3, .int (nI i)), (2, .int 1), (1, .ref x0), (0, .ref b)] → W p l e room_1 s m args below meth c H locs cells1 slots1 Q (F0 m 234 ls [])) : W p l e room_1 s m args below meth c H locs cells slots Q (F0 m 141 ls []) := by
  obtain ⟨hw1, hwz, hlz⟩ := zI_b hI.1
  obtain ⟨hnx, hcnt, -⟩ := hI.2
  have hff := zI_f hI.1
  have hhf := zI_hf hI.1
  refine lv_iload hx hb dL_law_141 (lv_at hl 5 rfl) ?_
  refine lv_iconst (v := 5) hx hb dL_law_143 (by decide) ?_
  refine lv_icmp_ge (tgt := 158) hx hb dL_law_144 (by decide) (fun c_144 => ?_) (fun c_144 => ?_)
  · have c_144 : 5 ≤ (x % 12) := (nI_leI (a := 5) (b := (x % 12)) (by omega) (by omega)).mp c_144
    refine lv_iload hx hb dL_law_158 (lv_at hl 5 rfl) ?_
    refine lv_iconst (v := 5) hx hb dL_law_160 (by decide) ?_
    refine lv_icmp_ne (tgt := 208) hx hb dL_law_161 (by decide) (fun c_161 => ?_) (fun c_161 => ?_)
    · have c_161 : ¬ (x % 12) = 5 := fun h => c_161 ((nI_eq (a := (x % 12)) (b := 5) (by omega) (by omega)).mpr h)
      refine lv_iload hx hb dL_law_208 (lv_at hl 5 rfl) ?_
      refine lv_bipush (v := 9) hx hb dL_law_210 (by decide) ?_
      refine lv_icmp_ge (tgt := 222) hx hb dL_law_212 (by decide) (fun c_212 => ?_) (fun c_212 => ?_)
      · have c_212 : 9 ≤ (x % 12) := (nI_leI (a := 9) (b := (x % 12)) (by omega) (by omega)).mp c_212
        refine lv_aload_n hx hb dL_law_222 rfl (lv_at hl 9 rfl) ?_
        refine lv_iload hx hb dL_law_223 (lv_at hl 5 rfl) ?_
        refine lv_bipush (v := 9) hx hb dL_law_225 (by decide) ?_
        refine lv_isub hx hb dL_law_227 ?_
        refine k_topi (y := nI ((x % 12) - 9)) (pk_sub (a := (x % 12)) (b := 9) (by omega)) ?_
        refine lv_iload hx hb dL_law_228 (lv_at hl 4 rfl) ?_
        refine lq_o (B0 := (LB cI cC cJ cZ cQ x0 a0 a1 a2 a3 a4 a5 a6 v0 v1 t0 t1 h0 u0 u1 pa rg z nx cnt S wd hv hk hc)) (B1 := fun u9 => LB cI cC cJ cZ cQ x0 a0 a1 a2 a3 a4 a5 a6 v0 v1 t0 t1 h0 u0 u1 pa rg u9.1 u9.2.1 u9.2.2.1 u9.2.2.2.1 u9.2.2.2.2.1 u9.2.2.2.2.2.1 u9.2.2.2.2.2.2.1 u9.2.2.2.2.2.2.2) (U := [0, 1, 2, 3, 4, 5, 6, 7]) (As := [.ref x0, .int (nI ((x % 12) - 9)), .int (nI (x / 12))]) (rest := []) ⟨hx, hb, hml, hown, hts⟩ (mL_weights l hst D H.size cI cC cJ cZ cQ x0 a0 a1 a2 a3 a4 a5 a6 v0 v1 t0 t1 h0 u0 u1 pa rg z nx cnt S wd hv hk hc ((x % 12) - 9) (x / 12) (by first | assumption | omega) (by first | assumption | omega) (by omega) (by omega)) (va_cwS 3 hts gL_law_L_weights rfl rfl rfl (by decide +kernel) ⟨Nat.le_of_ble_eq_true rfl, Nat.le_of_ble_eq_true rfl⟩) hP hD hK hS hA hN hE hO (fun _ => rfl) rfl hl.1 rfl (Nat.le_of_ble_eq_true rfl) dL_law_230 (lf_ok (by omega) (by omega)) (fun r_4 u_4 H locs hr_4 hP hD hS => ?_)
        obtain ⟨z_4, nx_4, cnt_4, S_4, wd_4, hv_4, hk_4, hc_4⟩ := u_4
        have hP : va_P D vwCl (fmB (LB cI cC cJ cZ cQ x0 a0 a1 a2 a3 a4 a5 a6 v0 v1 t0 t1 h0 u0 u1 pa rg z_4 nx_4 cnt_4 S_4 wd_4 hv_4 hk_4 hc_4) [0, 1, 2, 3, 4, 5, 6, 7]) H := hP
        have hD : va_D A (fmB (LB cI cC cJ cZ cQ x0 a0 a1 a2 a3 a4 a5 a6 v0 v1 t0 t1 h0 u0 u1 pa rg z_4 nx_4 cnt_4 S_4 wd_4 hv_4 hk_4 hc_4) [0, 1, 2, 3, 4, 5, 6, 7]) := hD
        have hr_4 : 1 = r_4 ∧ oI z_4 nx_4 cnt_4 S_4 ∧ nx_4 = (nx + 1) % 6 ∧ cnt_4 = min (cnt + 1) 6 ∧ S_4 = updS S nx z := hr_4
        obtain ⟨rfl, hIw, hpw⟩ := hr_4
        refine lv_istore_n (lv' := [(2, .int 1), (12, .int (nI cnt)), (10, .long hx9), (9, .int hb9), (7, .long w7), (6, .int (nI (x / 12))), (5, .int (nI (x % 12))), (4, .int (nI x)), (3, .int (nI i)), (1, .ref x0), (0, .ref b)]) hx hb dL_law_233 rfl hl (by decide) rfl (fun ls hl => ?_)
        exact K _ _ _ _ _ z_4 nx_4 cnt_4 S_4 wd_4 hv_4 hk_4 hc_4 (by omega) (by omega) hIw (Or.inr (Or.inr hpw)) hP hD hS (lv_sub hl [1, 2, 3, 4, 5, 6, 7, 8, 0, 9, 10] rfl)
      · have c_212 : ¬ 9 ≤ (x % 12) := fun h => c_212 ((nI_leI (a := 9) (b := (x % 12)) (by omega) (by omega)).mpr h)
        refine lv_aload_n hx hb dL_law_215 rfl (lv_at hl 9 rfl) ?_
        refine lq_o (B0 := (LB cI cC cJ cZ cQ x0 a0 a1 a2 a3 a4 a5 a6 v0 v1 t0 t1 h0 u0 u1 pa rg z nx cnt S wd hv hk hc)) (B1 := fun u9 => LB cI cC cJ cZ cQ x0 a0 a1 a2 a3 a4 a5 a6 v0 v1 t0 t1 h0 u0 u1 pa rg u9.1 u9.2.1 u9.2.2.1 u9.2.2.2.1 u9.2.2.2.2.1 u9.2.2.2.2.2.1 u9.2.2.2.2.2.2.1 u9.2.2.2.2.2.2.2) (U := [0, 1, 2, 3, 4, 5, 6, 7]) (As := [.ref x0]) (rest := []) ⟨hx, hb, hml, hown, hts⟩ (mL_converts l hst D H.size cI cC cJ cZ cQ x0 a0 a1 a2 a3 a4 a5 a6 v0 v1 t0 t1 h0 u0 u1 pa rg z nx cnt S wd hv hk hc (by first | assumption | omega) (by first | assumption | omega)) (va_cwS 1 hts gL_law_L_converts rfl rfl rfl (by decide +kernel) ⟨Nat.le_of_ble_eq_true rfl, Nat.le_of_ble_eq_true rfl⟩) hP hD hK hS hA hN hE hO (fun _ => rfl) rfl hl.1 rfl (Nat.le_of_ble_eq_true rfl) dL_law_216 (lf_ok (by omega) (by omega)) (fun r_5 u_5 H locs hr_5 hP hD hS => ?_)
        obtain ⟨z_5, nx_5, cnt_5, S_5, wd_5, hv_5, hk_5, hc_5⟩ := u_5
        have hP : va_P D vwCl (fmB (LB cI cC cJ cZ cQ x0 a0 a1 a2 a3 a4 a5 a6 v0 v1 t0 t1 h0 u0 u1 pa rg z_5 nx_5 cnt_5 S_5 wd_5 hv_5 hk_5 hc_5) [0, 1, 2, 3, 4, 5, 6, 7]) H := hP
        have hD : va_D A (fmB (LB cI cC cJ cZ cQ x0 a0 a1 a2 a3 a4 a5 a6 v0 v1 t0 t1 h0 u0 u1 pa rg z_5 nx_5 cnt_5 S_5 wd_5 hv_5 hk_5 hc_5) [0, 1, 2, 3, 4, 5, 6, 7]) := hD
        have hr_5 : 1 = r_5 ∧ oI z_5 nx_5 cnt_5 S_5 ∧ nx_5 = (nx + 1) % 6 ∧ cnt_5 = min (cnt + 1) 6 ∧ S_5 = updS S nx z := hr_5
        obtain ⟨rfl, hIc, hpc⟩ := hr_5
        refine lv_goto (tgt := 233) hx hb dL_law_219 (by decide) ?_
        refine lv_istore_n (lv' := [(2, .int 1), (12, .int (nI cnt)), (10, .long hx9), (9, .int hb9), (7, .long w7), (6, .int (nI (x / 12))), (5, .int (nI (x % 12))), (4, .int (nI x)), (3, .int (nI i)), (1, .ref x0), (0, .ref b)]) hx hb dL_law_233 rfl hl (by decide) rfl (fun ls hl => ?_)
        exact K _ _ _ _ _ z_5 nx_5 cnt_5 S_5 wd_5 hv_5 hk_5 hc_5 (by omega) (by omega) hIc (Or.inr (Or.inr hpc)) hP hD hS (lv_sub hl [1, 2, 3, 4, 5, 6, 7, 8, 0, 9, 10] rfl)
    · have c_161 : (x % 12) = 5 := (nI_eq (a := (x % 12)) (b := 5) (by omega) (by omega)).mp c_161
      refine lv_aload_n hx hb dL_law_164 rfl (lv_at hl 9 rfl) ?_
      refine lv_iconst (v := 4) hx hb dL_law_165 (by decide) ?_
      refine lv_iload hx hb dL_law_166 (lv_at hl 4 rfl) ?_
      refine lv_bipush (v := 12) hx hb dL_law_168 (by decide) ?_
      refine lv_irem hx hb dL_law_170 (by decide) ?_
      refine k_topi (y := nI ((x / 12) % 12)) (pk_rem (a := (x / 12)) (d := 12) (by omega) (by omega) (by omega)) ?_
      refine lv_iconst (v := 0) hx hb dL_law_171 (by decide) ?_
      refine lq_s (B0 := (LB cI cC cJ cZ cQ x0 a0 a1 a2 a3 a4 a5 a6 v0 v1 t0 t1 h0 u0 u1 pa rg z nx cnt S wd hv hk hc)) (B1 := (LB cI cC cJ cZ cQ x0 a0 a1 a2 a3 a4 a5 a6 v0 v1 t0 t1 h0 u0 u1 pa rg (z.1, z.2.1, z.2.2.1, z.2.2.2.1, z.2.2.2.2.1 ||| ((1 : Int32) <<< (nI ((x / 12) % 12) &&& 31)), z.2.2.2.2.2) ((nx + 1) % 6) (min (cnt + 1) 6) (updS S nx z) wd hv hk hc)) (U := [0, 1, 2, 3, 4, 5, 6, 7]) (isC := [0, 1, 2, 3, 4]) (isR := [5, 6, 7]) (As := [.ref x0, .int 4, .int (nI ((x / 12) % 12)), .int 0]) (rest := []) ⟨hx, hb, hml, hown, hts⟩ (kL_setGlitch_ok l D H.size cI cC cJ cZ cQ x0 v0 t0 h0 u0 a0 a1 a2 a3 a4 a5 a6 z v1 nx cnt pa S rg ((x / 12) % 12) 0 hnx hcnt hrg (by omega)) (vx_cwSW 4 hts gL_law_L_call rfl rfl rfl (by decide +kernel) ⟨Nat.le_of_ble_eq_true rfl, Nat.le_of_ble_eq_true rfl⟩) hP hD hK hS hA hN (by decide) rfl rfl rfl rfl hl.1 rfl (Nat.le_of_ble_eq_true rfl) dL_law_172 (lf_ok (by omega) (by omega)) (fun H locs hP hD hS => ?_)
      have hP : va_P D vwCl (fmB (LB cI cC cJ cZ cQ x0 a0 a1 a2 a3 a4 a5 a6 v0 v1 t0 t1 h0 u0 u1 pa rg (z.1, z.2.1, z.2.2.1, z.2.2.2.1, z.2.2.2.2.1 ||| ((1 : Int32) <<< (nI ((x / 12) % 12) &&& 31)), z.2.2.2.2.2) ((nx + 1) % 6) (min (cnt + 1) 6) (updS S nx z) wd hv hk hc) [0, 1, 2, 3, 4, 5, 6, 7]) H := hP
      have hD : va_D A (fmB (LB cI cC cJ cZ cQ x0 a0 a1 a2 a3 a4 a5 a6 v0 v1 t0 t1 h0 u0 u1 pa rg (z.1, z.2.1, z.2.2.1, z.2.2.2.1, z.2.2.2.2.1 ||| ((1 : Int32) <<< (nI ((x / 12) % 12) &&& 31)), z.2.2.2.2.2) ((nx + 1) % 6) (min (cnt + 1) 6) (updS S nx z) wd hv hk hc) [0, 1, 2, 3, 4, 5, 6, 7]) := hD
      obtain ⟨z1, hz1⟩ : ∃ q9 : StV, q9 = (z.1, z.2.1, z.2.2.1, z.2.2.2.1, z.2.2.2.2.1 ||| ((1 : Int32) <<< (nI ((x / 12) % 12) &&& 31)), z.2.2.2.2.2) := ⟨_, rfl⟩
      rw [← hz1] at hP hD
      have hP : va_P D vwCl (fmB (LB cI cC cJ cZ cQ x0 a0 a1 a2 a3 a4 a5 a6 v0 v1 t0 t1 h0 u0 u1 pa rg z1 ((nx + 1) % 6) (min (cnt + 1) 6) (updS S nx z) wd hv hk hc) [0, 1, 2, 3, 4, 5, 6, 7]) H := hP
      have hD : va_D A (fmB (LB cI cC cJ cZ cQ x0 a0 a1 a2 a3 a4 a5 a6 v0 v1 t0 t1 h0 u0 u1 pa rg z1 ((nx + 1) % 6) (min (cnt + 1) 6) (updS S nx z) wd hv hk hc) [0, 1, 2, 3, 4, 5, 6, 7]) := hD
      have hz9 : zI z1 := by subst hz1; exact zI_gl hI.1
      have hIg1 := oI_push hI hz9
      obtain ⟨hnx1, hcnt1, -⟩ := hIg1.2
      refine lv_if_lt (tgt := 204) hx hb dL_law_175 (by decide) (fun c_175 => ?_) (fun c_175 => ?_)
      · exact absurd c_175 (hB_ge _ _)
      · refine lv_aload_n hx hb dL_law_178 rfl (lv_at hl 9 rfl) ?_
        refine lv_iconst (v := 4) hx hb dL_law_179 (by decide) ?_
        refine lv_iload hx hb dL_law_180 (lv_at hl 4 rfl) ?_
        refine lv_bipush (v := 12) hx hb dL_law_182 (by decide) ?_
        refine lv_irem hx hb dL_law_184 (by decide) ?_
        refine k_topi (y := nI ((x / 12) % 12)) (pk_rem (a := (x / 12)) (d := 12) (by omega) (by omega) (by omega)) ?_
        refine lv_iconst (v := 0) hx hb dL_law_185 (by decide) ?_
        refine lq_s (B0 := (LB cI cC cJ cZ cQ x0 a0 a1 a2 a3 a4 a5 a6 v0 v1 t0 t1 h0 u0 u1 pa rg z1 ((nx + 1) % 6) (min (cnt + 1) 6) (updS S nx z) wd hv hk hc)) (B1 := (LB cI cC cJ cZ cQ x0 a0 a1 a2 a3 a4 a5 a6 v0 v1 t0 t1 h0 u0 u1 pa rg (z1.1, z1.2.1, z1.2.2.1, z1.2.2.2.1, z1.2.2.2.2.1 ||| ((1 : Int32) <<< (nI ((x / 12) % 12) &&& 31)), z1.2.2.2.2.2) ((((nx + 1) % 6) + 1) % 6) (min ((min (cnt + 1) 6) + 1) 6) (updS (updS S nx z) ((nx + 1) % 6) z1) wd hv hk hc)) (U := [0, 1, 2, 3, 4, 5, 6, 7]) (isC := [0, 1, 2, 3, 4]) (isR := [5, 6, 7]) (As := [.ref x0, .int 4, .int (nI ((x / 12) % 12)), .int 0]) (rest := []) ⟨hx, hb, hml, hown, hts⟩ (kL_setGlitch_ok l D H.size cI cC cJ cZ cQ x0 v0 t0 h0 u0 a0 a1 a2 a3 a4 a5 a6 z1 v1 ((nx + 1) % 6) (min (cnt + 1) 6) pa (updS S nx z) rg ((x / 12) % 12) 0 hnx1 hcnt1 hrg (by omega)) (vx_cwSW 4 hts gL_law_L_call rfl rfl rfl (by decide +kernel) ⟨Nat.le_of_ble_eq_true rfl, Nat.le_of_ble_eq_true rfl⟩) hP hD hK hS hA hN (by decide) rfl rfl rfl rfl hl.1 rfl (Nat.le_of_ble_eq_true rfl) dL_law_186 (lf_ok (by omega) (by omega)) (fun H locs hP hD hS => ?_)
        have hP : va_P D vwCl (fmB (LB cI cC cJ cZ cQ x0 a0 a1 a2 a3 a4 a5 a6 v0 v1 t0 t1 h0 u0 u1 pa rg (z1.1, z1.2.1, z1.2.2.1, z1.2.2.2.1, z1.2.2.2.2.1 ||| ((1 : Int32) <<< (nI ((x / 12) % 12) &&& 31)), z1.2.2.2.2.2) ((((nx + 1) % 6) + 1) % 6) (min ((min (cnt + 1) 6) + 1) 6) (updS (updS S nx z) ((nx + 1) % 6) z1) wd hv hk hc) [0, 1, 2, 3, 4, 5, 6, 7]) H := hP
        have hD : va_D A (fmB (LB cI cC cJ cZ cQ x0 a0 a1 a2 a3 a4 a5 a6 v0 v1 t0 t1 h0 u0 u1 pa rg (z1.1, z1.2.1, z1.2.2.1, z1.2.2.2.1, z1.2.2.2.2.1 ||| ((1 : Int32) <<< (nI ((x / 12) % 12) &&& 31)), z1.2.2.2.2.2) ((((nx + 1) % 6) + 1) % 6) (min ((min (cnt + 1) 6) + 1) 6) (updS (updS S nx z) ((nx + 1) % 6) z1) wd hv hk hc) [0, 1, 2, 3, 4, 5, 6, 7]) := hD
        obtain ⟨z2, hz2⟩ : ∃ q9 : StV, q9 = (z1.1, z1.2.1, z1.2.2.1, z1.2.2.2.1, z1.2.2.2.2.1 ||| ((1 : Int32) <<< (nI ((x / 12) % 12) &&& 31)), z1.2.2.2.2.2) := ⟨_, rfl⟩
        rw [← hz2] at hP hD
        have hP : va_P D vwCl (fmB (LB cI cC cJ cZ cQ x0 a0 a1 a2 a3 a4 a5 a6 v0 v1 t0 t1 h0 u0 u1 pa rg z2 ((((nx + 1) % 6) + 1) % 6) (min ((min (cnt + 1) 6) + 1) 6) (updS (updS S nx z) ((nx + 1) % 6) z1) wd hv hk hc) [0, 1, 2, 3, 4, 5, 6, 7]) H := hP
        have hD : va_D A (fmB (LB cI cC cJ cZ cQ x0 a0 a1 a2 a3 a4 a5 a6 v0 v1 t0 t1 h0 u0 u1 pa rg z2 ((((nx + 1) % 6) + 1) % 6) (min ((min (cnt + 1) 6) + 1) 6) (updS (updS S nx z) ((nx + 1) % 6) z1) wd hv hk hc) [0, 1, 2, 3, 4, 5, 6, 7]) := hD
        refine k_topi (y := 1) (by subst hz1; exact gl_set _ (by omega)) ?_
        have hz8 : zI z2 := by subst hz2; exact zI_gl hz9
        have hIg2 := oI_push hIg1 hz8
        obtain ⟨hnx2, hcnt2, -⟩ := hIg2.2
        refine lv_iconst (v := 1) hx hb dL_law_189 (by decide) ?_
        refine lv_icmp_ne (tgt := 204) hx hb dL_law_190 (by decide) (fun h => absurd h (by decide)) (fun _ => ?_)
        refine lv_aload_n hx hb dL_law_193 rfl (lv_at hl 9 rfl) ?_
        refine lq_v (B0 := (LB cI cC cJ cZ cQ x0 a0 a1 a2 a3 a4 a5 a6 v0 v1 t0 t1 h0 u0 u1 pa rg z2 ((((nx + 1) % 6) + 1) % 6) (min ((min (cnt + 1) 6) + 1) 6) (updS (updS S nx z) ((nx + 1) % 6) z1) wd hv hk hc)) (B1 := (LB cI cC cJ cZ cQ x0 a0 a1 a2 a3 a4 a5 a6 v0 v1 t0 t1 h0 u0 u1 pa rg ((updS (updS S nx z) ((nx + 1) % 6) z1) ((((((nx + 1) % 6) + 1) % 6) + 5) % 6)) ((((((nx + 1) % 6) + 1) % 6) + 5) % 6) ((min ((min (cnt + 1) 6) + 1) 6) - 1) (updS (updS S nx z) ((nx + 1) % 6) z1) wd hv hk hc)) (U := [0, 1, 2, 3, 4, 5, 6, 7]) (isC := [0, 1, 2, 3, 4]) (isR := [5, 6, 7]) (As := []) (rest := []) ⟨hx, hb, hml, hown, hts⟩ (kX7_undo l D H.size cI cC cJ cZ cQ x0 v0 t0 h0 u0 a0 a1 a2 a3 a4 a5 a6 z2 v1 ((((nx + 1) % 6) + 1) % 6) (min ((min (cnt + 1) 6) + 1) 6) pa (updS (updS S nx z) ((nx + 1) % 6) z1) rg hnx2 hcnt2 hrg (by omega)) (cwV 0 hts gL_law_X7_undo rfl rfl rfl (by decide +kernel) ⟨Nat.le_of_ble_eq_true rfl, Nat.le_of_ble_eq_true rfl⟩) hP hD hK hS hA hN (by decide) rfl rfl rfl 0 7 rfl rfl rfl rfl hl.1 rfl (Nat.le_of_ble_eq_true rfl) dL_law_194 (lf_ok (by omega) (by omega)) (fun H locs hP hD hS => ?_)
        refine lv_if_lt (tgt := 204) hx hb dL_law_197 (by decide) (fun c_197 => ?_) (fun c_197 => ?_)
        · have c_197 : ((min ((min (cnt + 1) 6) + 1) 6) - 1) < 0 := (nI_ltI (a := ((min ((min (cnt + 1) 6) + 1) 6) - 1)) (b := 0) (by omega) (by omega)).mp c_197
          omega
        · have c_197 : ¬ ((min ((min (cnt + 1) 6) + 1) 6) - 1) < 0 := fun h => c_197 ((nI_ltI (a := ((min ((min (cnt + 1) 6) + 1) 6) - 1)) (b := 0) (by omega) (by omega)).mpr h)
          refine lv_iconst (v := 1) hx hb dL_law_200 (by decide) ?_
          refine lv_goto (tgt := 233) hx hb dL_law_201 (by decide) ?_
          refine lv_istore_n (lv' := [(2, .int 1), (12, .int (nI cnt)), (10, .long hx9), (9, .int hb9), (7, .long w7), (6, .int (nI (x / 12))), (5, .int (nI (x % 12))), (4, .int (nI x)), (3, .int (nI i)), (1, .ref x0), (0, .ref b)]) hx hb dL_law_233 rfl hl (by decide) rfl (fun ls hl => ?_)
          exact K _ _ _ _ _ ((updS (updS S nx z) ((nx + 1) % 6) z1) ((((((nx + 1) % 6) + 1) % 6) + 5) % 6)) ((((((nx + 1) % 6) + 1) % 6) + 5) % 6) ((min ((min (cnt + 1) 6) + 1) 6) - 1) (updS (updS S nx z) ((nx + 1) % 6) z1) wd hv hk hc (by omega) (by omega) (oI_pop hIg2 (by omega)) (Or.inr (Or.inl (by omega))) hP hD hS (lv_sub hl [1, 2, 3, 4, 5, 6, 7, 8, 0, 9, 10] rfl)
  · have c_144 : ¬ 5 ≤ (x % 12) := fun h => c_144 ((nI_leI (a := 5) (b := (x % 12)) (by omega) (by omega)).mpr h)
    refine lv_aload_n hx hb dL_law_147 rfl (lv_at hl 9 rfl) ?_
    refine lv_iload hx hb dL_law_148 (lv_at hl 5 rfl) ?_
    refine lv_iload hx hb dL_law_150 (lv_at hl 4 rfl) ?_
    refine lq_o (B0 := (LB cI cC cJ cZ cQ x0 a0 a1 a2 a3 a4 a5 a6 v0 v1 t0 t1 h0 u0 u1 pa rg z nx cnt S wd hv hk hc)) (B1 := fun u9 => LB cI cC cJ cZ cQ x0 a0 a1 a2 a3 a4 a5 a6 v0 v1 t0 t1 h0 u0 u1 pa rg u9.1 u9.2.1 u9.2.2.1 u9.2.2.2.1 u9.2.2.2.2.1 u9.2.2.2.2.2.1 u9.2.2.2.2.2.2.1 u9.2.2.2.2.2.2.2) (U := [0, 1, 2, 3, 4, 5, 6, 7]) (As := [.ref x0, .int (nI (x % 12)), .int (nI (x / 12))]) (rest := []) ⟨hx, hb, hml, hown, hts⟩ (mL_volts l hst D H.size cI cC cJ cZ cQ x0 a0 a1 a2 a3 a4 a5 a6 v0 v1 t0 t1 h0 u0 u1 pa rg z nx cnt S wd hv hk hc (x % 12) (x / 12) (by first | assumption | omega) (by first | assumption | omega) (by omega) (by omega)) (va_cwS 3 hts gL_law_L_volts rfl rfl rfl (by decide +kernel) ⟨Nat.le_of_ble_eq_true rfl, Nat.le_of_ble_eq_true rfl⟩) hP hD hK hS hA hN hE hO (fun _ => rfl) rfl hl.1 rfl (Nat.le_of_ble_eq_true rfl) dL_law_152 (lf_ok (by omega) (by omega)) (fun r_11 u_11 H locs hr_11 hP hD hS => ?_)
    obtain ⟨z_11, nx_11, cnt_11, S_11, wd_11, hv_11, hk_11, hc_11⟩ := u_11
    have hP : va_P D vwCl (fmB (LB cI cC cJ cZ cQ x0 a0 a1 a2 a3 a4 a5 a6 v0 v1 t0 t1 h0 u0 u1 pa rg z_11 nx_11 cnt_11 S_11 wd_11 hv_11 hk_11 hc_11) [0, 1, 2, 3, 4, 5, 6, 7]) H := hP
    have hD : va_D A (fmB (LB cI cC cJ cZ cQ x0 a0 a1 a2 a3 a4 a5 a6 v0 v1 t0 t1 h0 u0 u1 pa rg z_11 nx_11 cnt_11 S_11 wd_11 hv_11 hk_11 hc_11) [0, 1, 2, 3, 4, 5, 6, 7]) := hD
    have hr_11 : 1 = r_11 ∧ oI z_11 nx_11 cnt_11 S_11 ∧ ((x % 12) = 3 ∨ (nx_11 = (nx + 1) % 6 ∧ cnt_11 = min (cnt + 1) 6 ∧ S_11 = updS S nx z)) := hr_11
    obtain ⟨rfl, hIv, hpv9⟩ := hr_11
    have hpv : x % 12 = 3 ∨ x % 12 = 5 ∨ _ := hpv9.elim Or.inl (fun q9 => Or.inr (Or.inr q9))
    refine lv_goto (tgt := 233) hx hb dL_law_155 (by decide) ?_
    refine lv_istore_n (lv' := [(2, .int 1), (12, .int (nI cnt)), (10, .long hx9), (9, .int hb9), (7, .long w7), (6, .int (nI (x / 12))), (5, .int (nI (x % 12))), (4, .int (nI x)), (3, .int (nI i)), (1, .ref x0), (0, .ref b)]) hx hb dL_law_233 rfl hl (by decide) rfl (fun ls hl => ?_)
    exact K _ _ _ _ _ z_11 nx_11 cnt_11 S_11 wd_11 hv_11 hk_11 hc_11 (by omega) (by omega) hIv hpv hP hD hS (lv_sub hl [1, 2, 3, 4, 5, 6, 7, 8, 0, 9, 10] rfl)

set_option maxHeartbeats 8000000 in
set_option maxRecDepth 100000 in
theorem lb_3 {p : Program} {l : Launch} {e : Env} {s : State} {m : MethodId} {args : Array Value} {below : List Frame} {meth : Method} {c : Code} {A : Nat → Prop} {H : Heap} {locs : List Loc} {ls : Array Slot} {cells slots : Nat} {Q : State → Prop} {D : va_G} {cI cC cJ cZ cQ : ClassId} {x0 a0 a1 a2 a3 a4 a5 a6 v0 v1 t0 t1 h0 u0 u1 : Nat} {pa : Nat → Nat} {rg : Nat → Option Nat} {z : StV} {nx cnt : Nat} {S : Nat → StV} {wd : Nat → Int64} {hv hk hc : Int32} {b : Nat} {i : Nat} {x : Nat} {w7 : Int64} {hx9 : Int64} {hb9 : Int32} {zo : StV} {no : Nat} {co : Nat} {So : Nat → StV} (hx : p.tables.exec = Jvm.exec) (hb : c.code = cL_law) (hml : c.maxLocals = 15) (hown : s.vm.findClass RL = some m.cls) (hts : ∀ w ∈ wsL_law, w.before args s = true) (hst : l.stackTraces = false) (hK : va_K D vwCl (kT cI cC cJ cZ cQ) s) (hN : kN s) (hE : kE A s s.heap) (hO : kO s) (hA : ∀ q, s.heap.size ≤ q → A q) (hrg : rgOK rg pa) (hP : va_P D vwCl (fmB (LB cI cC cJ cZ cQ x0 a0 a1 a2 a3 a4 a5 a6 v0 v1 t0 t1 h0 u0 u1 pa rg z nx cnt S wd hv hk hc) [0, 1, 2, 3, 4, 5, 6, 7]) H) (hD : va_D A (fmB (LB cI cC cJ cZ cQ x0 a0 a1 a2 a3 a4 a5 a6 v0 v1 t0 t1 h0 u0 u1 pa rg z nx cnt S wd hv hk hc) [0, 1, 2, 3, 4, 5, 6, 7])) (hS : va_S A s.heap H locs) (hI : oI z nx cnt S) (hno : no < 6) (hco : co ≤ 6) (hpu : x % 12 = 3 ∨ x % 12 = 5 ∨ (nx = (no + 1) % 6 ∧ cnt = min (co + 1) 6 ∧ S = updS So no zo)) (hi : i < 50) (hx0 : x < 2147483648) (hl : lv_has ls 15 [(12, .int (nI co)), (10, .long hx9), (9, .int hb9), (7, .long w7), (6, .int (nI (x / 12))), (5, .int (nI (x % 12))), (4, .int (nI x)), (3, .int (nI i)), (2, .int 1), (1, .ref x0), (0, .ref b)]) (hfc : cells + 100 ≤ 649488) (hfs : slots + 600 ≤ 7152719)
    (K : ∀ (H : Heap) (locs : List Loc) (ls : Array Slot) (tw : Int32), ((tw = 1 ∧ (x % 12 = 3 ∨ x % 12 = 5)) ∨ (tw = 0 ∧ ¬ (x % 12 = 3 ∨ x % 12 = 5))) → va_P D vwCl (fmB (LB cI cC cJ cZ cQ x0 a0 a1 a2 a3 a4 a5 a6 v0 v1 t0 t1 h0 u0 u1 pa rg z nx cnt S wd hv hk hc) [0, 1, 2, 3, 4, 5, 6, 7]) H → va_D A (fmB (LB cI cC cJ cZ cQ x0 a0 a1 a2 a3 a4 a5 a6 v0 v1 t0 t1 h0 u0 u1 pa rg z nx cnt S wd hv hk hc) [0, 1, 2, 3, 4, 5, 6, 7]) → va_S A s.heap H locs → lv_has ls 15 [(14, .int tw), (13, .int (nI cnt)), (12, .int (nI co)), (10, .long hx9), (9, .int hb9), (7, .long w7), (6, .int (nI (x / 12))), (5, .int (nI (x % 12))), (4, .int (nI x)), (3, .int (nI i)), (2, .int 1), (1, .ref x0), (0, .ref b)] → W p l e room_1 s m args below meth c H locs cells slots Q (F0 m 300 ls [.ref x0])) : W p l e room_1 s m args below meth c H locs cells slots Q (F0 m 234 ls []) := by
  obtain ⟨hw1, hwz, hlz⟩ := zI_b hI.1
  obtain ⟨hnx, hcnt, -⟩ := hI.2
  have hff := zI_f hI.1
  have hhf := zI_hf hI.1
  refine lv_aload_n hx hb dL_law_234 rfl (lv_at hl 9 rfl) ?_
  refine lq_v (B0 := (LB cI cC cJ cZ cQ x0 a0 a1 a2 a3 a4 a5 a6 v0 v1 t0 t1 h0 u0 u1 pa rg z nx cnt S wd hv hk hc)) (B1 := (LB cI cC cJ cZ cQ x0 a0 a1 a2 a3 a4 a5 a6 v0 v1 t0 t1 h0 u0 u1 pa rg z nx cnt S wd hv hk hc)) (U := [0, 1, 2, 3, 4, 5, 6, 7]) (isC := [0, 2, 3]) (isR := [1, 4, 5, 6, 7]) (As := []) (rest := []) ⟨hx, hb, hml, hown, hts⟩ (kX7_savedStates l D H.size cI cC cJ cZ cQ x0 v0 t0 h0 u0 a0 v1 nx cnt rg) (cwV 0 hts gL_law_X7_savedStates rfl rfl rfl (by decide +kernel) ⟨Nat.le_of_ble_eq_true rfl, Nat.le_of_ble_eq_true rfl⟩) hP hD hK hS hA hN (by decide) rfl rfl rfl 0 7 rfl rfl rfl rfl hl.1 rfl (Nat.le_of_ble_eq_true rfl) dL_law_235 (lf_ok (by omega) (by omega)) (fun H locs hP hD hS => ?_)
  refine lv_istore (lv' := [(13, .int (nI cnt)), (12, .int (nI co)), (10, .long hx9), (9, .int hb9), (7, .long w7), (6, .int (nI (x / 12))), (5, .int (nI (x % 12))), (4, .int (nI x)), (3, .int (nI i)), (2, .int 1), (1, .ref x0), (0, .ref b)]) hx hb dL_law_238 hl (by decide) rfl (fun ls hl => ?_)
  have J257 : ∀ (tw : Int32) (htw : (tw = 1 ∧ (x % 12 = 3 ∨ x % 12 = 5)) ∨ (tw = 0 ∧ ¬ (x % 12 = 3 ∨ x % 12 = 5))) (H : Heap) (locs : List Loc) (hP : va_P D vwCl (fmB (LB cI cC cJ cZ cQ x0 a0 a1 a2 a3 a4 a5 a6 v0 v1 t0 t1 h0 u0 u1 pa rg z nx cnt S wd hv hk hc) [0, 1, 2, 3, 4, 5, 6, 7]) H) (hD : va_D A (fmB (LB cI cC cJ cZ cQ x0 a0 a1 a2 a3 a4 a5 a6 v0 v1 t0 t1 h0 u0 u1 pa rg z nx cnt S wd hv hk hc) [0, 1, 2, 3, 4, 5, 6, 7])) (hS : va_S A s.heap H locs) (ls : Array Slot) (hl : lv_has ls 15 [(13, .int (nI cnt)), (12, .int (nI co)), (10, .long hx9), (9, .int hb9), (7, .long w7), (6, .int (nI (x / 12))), (5, .int (nI (x % 12))), (4, .int (nI x)), (3, .int (nI i)), (2, .int 1), (1, .ref x0), (0, .ref b)]), W p l e room_1 s m args below meth c H locs cells slots Q (F0 m 257 ls [.int tw]) := by
    intro tw htw H locs hP hD hS ls hl
    refine lv_istore (lv' := [(14, .int tw), (13, .int (nI cnt)), (12, .int (nI co)), (10, .long hx9), (9, .int hb9), (7, .long w7), (6, .int (nI (x / 12))), (5, .int (nI (x % 12))), (4, .int (nI x)), (3, .int (nI i)), (2, .int 1), (1, .ref x0), (0, .ref b)]) hx hb dL_law_257 hl (by decide) rfl (fun ls hl => ?_)
    have J299 : ∀ (H : Heap) (locs : List Loc) (hP : va_P D vwCl (fmB (LB cI cC cJ cZ cQ x0 a0 a1 a2 a3 a4 a5 a6 v0 v1 t0 t1 h0 u0 u1 pa rg z nx cnt S wd hv hk hc) [0, 1, 2, 3, 4, 5, 6, 7]) H) (hD : va_D A (fmB (LB cI cC cJ cZ cQ x0 a0 a1 a2 a3 a4 a5 a6 v0 v1 t0 t1 h0 u0 u1 pa rg z nx cnt S wd hv hk hc) [0, 1, 2, 3, 4, 5, 6, 7])) (hS : va_S A s.heap H locs) (ls : Array Slot) (hl : lv_has ls 15 [(14, .int tw), (13, .int (nI cnt)), (12, .int (nI co)), (10, .long hx9), (9, .int hb9), (7, .long w7), (6, .int (nI (x / 12))), (5, .int (nI (x % 12))), (4, .int (nI x)), (3, .int (nI i)), (2, .int 1), (1, .ref x0), (0, .ref b)]), W p l e room_1 s m args below meth c H locs cells slots Q (F0 m 299 ls []) := by
      intro H locs hP hD hS ls hl
      refine lv_aload_n hx hb dL_law_299 rfl (lv_at hl 11 rfl) ?_
      exact K _ _ _ _ htw hP hD hS (lv_sub hl [0, 1, 2, 3, 4, 5, 6, 7, 8, 9, 10, 11, 12] rfl)
    refine lv_iload_n hx hb dL_law_259 rfl (lv_at hl 10 rfl) ?_
    refine lv_if_eq (tgt := 331) hx hb dL_law_260 (by decide) (fun h => absurd h (by decide)) (fun _ => ?_)
    refine lv_iload hx hb dL_law_263 (lv_at hl 0 rfl) ?_
    refine lv_if_eq (tgt := 278) hx hb dL_law_265 (by decide) (fun c_265 => ?_) (fun c_265 => ?_)
    · have hq9 : cnt = min (co + 1) 6 := by
        rcases htw with ⟨q1, -⟩ | ⟨-, q2⟩
        · rw [c_265] at q1
          exact absurd q1 (by decide)
        · rcases hpu with q | q | q
          · exact absurd (Or.inl q) q2
          · exact absurd (Or.inr q) q2
          · exact q.2.1
      refine lv_iload hx hb dL_law_278 (lv_at hl 1 rfl) ?_
      refine lv_iload hx hb dL_law_280 (lv_at hl 2 rfl) ?_
      refine lv_bipush (v := 6) hx hb dL_law_282 (by decide) ?_
      refine lv_icmp_ge (tgt := 294) hx hb dL_law_284 (by decide) (fun c_284 => ?_) (fun c_284 => ?_)
      · have c_284 : 6 ≤ co := (nI_leI (a := 6) (b := co) (by omega) (by omega)).mp c_284
        refine lv_bipush (v := 6) hx hb dL_law_294 (by decide) ?_
        refine lv_icmp_ne (tgt := 331) hx hb dL_law_296 (by decide) (fun c_296 => ?_) (fun c_296 => ?_)
        · have c_296 : ¬ cnt = 6 := fun h => c_296 ((nI_eq (a := cnt) (b := 6) (by omega) (by omega)).mpr h)
          omega
        · have c_296 : cnt = 6 := (nI_eq (a := cnt) (b := 6) (by omega) (by omega)).mp c_296
          exact J299 _ _ hP hD hS _ (lv_sub hl [0, 1, 2, 3, 4, 5, 6, 7, 8, 9, 10, 11, 12] rfl)
      · have c_284 : ¬ 6 ≤ co := fun h => c_284 ((nI_leI (a := 6) (b := co) (by omega) (by omega)).mpr h)
        refine lv_iload hx hb dL_law_287 (lv_at hl 2 rfl) ?_
        refine lv_iconst (v := 1) hx hb dL_law_289 (by decide) ?_
        refine lv_iadd hx hb dL_law_290 ?_
        refine k_topi (y := nI (co + 1)) (nI_add co 1) ?_
        refine lv_goto (tgt := 296) hx hb dL_law_291 (by decide) ?_
        refine lv_icmp_ne (tgt := 331) hx hb dL_law_296 (by decide) (fun c_296 => ?_) (fun c_296 => ?_)
        · have c_296 : ¬ cnt = (co + 1) := fun h => c_296 ((nI_eq (a := cnt) (b := (co + 1)) (by omega) (by omega)).mpr h)
          omega
        · have c_296 : cnt = (co + 1) := (nI_eq (a := cnt) (b := (co + 1)) (by omega) (by omega)).mp c_296
          exact J299 _ _ hP hD hS _ (lv_sub hl [0, 1, 2, 3, 4, 5, 6, 7, 8, 9, 10, 11, 12] rfl)
    · refine lv_iload hx hb dL_law_268 (lv_at hl 1 rfl) ?_
      refine lv_bipush (v := 6) hx hb dL_law_270 (by decide) ?_
      refine lv_icmp_gt (tgt := 331) hx hb dL_law_272 (by decide) (fun c_272 => ?_) (fun c_272 => ?_)
      · have c_272 : 6 < cnt := (nI_ltI (a := 6) (b := cnt) (by omega) (by omega)).mp c_272
        omega
      · have c_272 : ¬ 6 < cnt := fun h => c_272 ((nI_ltI (a := 6) (b := cnt) (by omega) (by omega)).mpr h)
        refine lv_goto (tgt := 299) hx hb dL_law_275 (by decide) ?_
        exact J299 _ _ hP hD hS _ (lv_sub hl [0, 1, 2, 3, 4, 5, 6, 7, 8, 9, 10, 11, 12] rfl)
  refine lv_iload hx hb dL_law_240 (lv_at hl 6 rfl) ?_
  refine lv_iconst (v := 3) hx hb dL_law_242 (by decide) ?_
  refine lv_icmp_eq (tgt := 252) hx hb dL_law_243 (by decide) (fun c_243 => ?_) (fun c_243 => ?_)
  · have c_243 : (x % 12) = 3 := (nI_eq (a := (x % 12)) (b := 3) (by omega) (by omega)).mp c_243
    refine lv_iconst (v := 1) hx hb dL_law_252 (by decide) ?_
    refine lv_goto (tgt := 257) hx hb dL_law_253 (by decide) ?_
    exact J257 1 (by first | exact Or.inl ⟨rfl, by omega⟩ | exact Or.inr ⟨rfl, by omega⟩) _ _ hP hD hS _ (lv_sub hl [0, 1, 2, 3, 4, 5, 6, 7, 8, 9, 10, 11] rfl)
  · have c_243 : ¬ (x % 12) = 3 := fun h => c_243 ((nI_eq (a := (x % 12)) (b := 3) (by omega) (by omega)).mpr h)
    refine lv_iload hx hb dL_law_246 (lv_at hl 6 rfl) ?_
    refine lv_iconst (v := 5) hx hb dL_law_248 (by decide) ?_
    refine lv_icmp_ne (tgt := 256) hx hb dL_law_249 (by decide) (fun c_249 => ?_) (fun c_249 => ?_)
    · have c_249 : ¬ (x % 12) = 5 := fun h => c_249 ((nI_eq (a := (x % 12)) (b := 5) (by omega) (by omega)).mpr h)
      refine lv_iconst (v := 0) hx hb dL_law_256 (by decide) ?_
      exact J257 0 (by first | exact Or.inl ⟨rfl, by omega⟩ | exact Or.inr ⟨rfl, by omega⟩) _ _ hP hD hS _ (lv_sub hl [0, 1, 2, 3, 4, 5, 6, 7, 8, 9, 10, 11] rfl)
    · have c_249 : (x % 12) = 5 := (nI_eq (a := (x % 12)) (b := 5) (by omega) (by omega)).mp c_249
      refine lv_iconst (v := 1) hx hb dL_law_252 (by decide) ?_
      refine lv_goto (tgt := 257) hx hb dL_law_253 (by decide) ?_
      exact J257 1 (by first | exact Or.inl ⟨rfl, by omega⟩ | exact Or.inr ⟨rfl, by omega⟩) _ _ hP hD hS _ (lv_sub hl [0, 1, 2, 3, 4, 5, 6, 7, 8, 9, 10, 11] rfl)

set_option maxHeartbeats 8000000 in
set_option maxRecDepth 100000 in
theorem lb_4 {p : Program} {l : Launch} {e : Env} {s : State} {m : MethodId} {args : Array Value} {below : List Frame} {meth : Method} {c : Code} {A : Nat → Prop} {H : Heap} {locs : List Loc} {ls : Array Slot} {cells slots : Nat} {Q : State → Prop} {D : va_G} {cI cC cJ cZ cQ : ClassId} {x0 a0 a1 a2 a3 a4 a5 a6 v0 v1 t0 t1 h0 u0 u1 : Nat} {pa : Nat → Nat} {rg : Nat → Option Nat} {z : StV} {nx cnt : Nat} {S : Nat → StV} {wd : Nat → Int64} {hv hk hc : Int32} {b : Nat} {i : Nat} {x : Nat} {w7 : Int64} {hx9 : Int64} {hb9 : Int32} {tw : Int32} {zo : StV} {no : Nat} {co : Nat} {So : Nat → StV} (hx : p.tables.exec = Jvm.exec) (hb : c.code = cL_law) (hml : c.maxLocals = 15) (hown : s.vm.findClass RL = some m.cls) (hts : ∀ w ∈ wsL_law, w.before args s = true) (hst : l.stackTraces = false) (hK : va_K D vwCl (kT cI cC cJ cZ cQ) s) (hN : kN s) (hE : kE A s s.heap) (hO : kO s) (hA : ∀ q, s.heap.size ≤ q → A q) (hrg : rgOK rg pa) (hP : va_P D vwCl (fmB (LB cI cC cJ cZ cQ x0 a0 a1 a2 a3 a4 a5 a6 v0 v1 t0 t1 h0 u0 u1 pa rg z nx cnt S wd hv hk hc) [0, 1, 2, 3, 4, 5, 6, 7]) H) (hD : va_D A (fmB (LB cI cC cJ cZ cQ x0 a0 a1 a2 a3 a4 a5 a6 v0 v1 t0 t1 h0 u0 u1 pa rg z nx cnt S wd hv hk hc) [0, 1, 2, 3, 4, 5, 6, 7])) (hS : va_S A s.heap H locs) (hI : oI z nx cnt S) (hno : no < 6) (hco : co ≤ 6) (hpu : x % 12 = 3 ∨ x % 12 = 5 ∨ (nx = (no + 1) % 6 ∧ cnt = min (co + 1) 6 ∧ S = updS So no zo)) (hi : i < 50) (hx0 : x < 2147483648) (htw : (tw = 1 ∧ (x % 12 = 3 ∨ x % 12 = 5)) ∨ (tw = 0 ∧ ¬ (x % 12 = 3 ∨ x % 12 = 5))) (hw7 : w7 = seenP zo) (hhx : hb9 = 0 ∨ hx9 = digP zo) (hl : lv_has ls 15 [(14, .int tw), (13, .int (nI cnt)), (12, .int (nI co)), (10, .long hx9), (9, .int hb9), (7, .long w7), (6, .int (nI (x / 12))), (5, .int (nI (x % 12))), (4, .int (nI x)), (3, .int (nI i)), (2, .int 1), (1, .ref x0), (0, .ref b)]) (hfc : cells + 100 ≤ 649488) (hfs : slots + 600 ≤ 7152719)
    (K : ∀ (cells1 slots1 : Nat) (H : Heap) (locs : List Loc) (ls : Array Slot) (z' : StV) (nx' cnt' : Nat) (S' : Nat → StV) (wd : Nat → Int64) (hv hk hc : Int32), cells1 ≤ cells + 40 → slots1 ≤ slots + 240 → oI z' nx' cnt' S' → va_P D vwCl (fmB (LB cI cC cJ cZ cQ x0 a0 a1 a2 a3 a4 a5 a6 v0 v1 t0 t1 h0 u0 u1 pa rg z' nx' cnt' S' wd hv hk hc) [0, 1, 2, 3, 4, 5, 6, 7]) H → va_D A (fmB (LB cI cC cJ cZ cQ x0 a0 a1 a2 a3 a4 a5 a6 v0 v1 t0 t1 h0 u0 u1 pa rg z' nx' cnt' S' wd hv hk hc) [0, 1, 2, 3, 4, 5, 6, 7]) → va_S A s.heap H locs → lv_has ls 15 [(3, .int (nI i)), (2, .int 1), (1, .ref x0), (0, .ref b)] → W p l e room_1 s m args below meth c H locs cells1 slots1 Q (F0 m 423 ls [])) : W p l e room_1 s m args below meth c H locs cells slots Q (F0 m 303 ls [.int 1]) := by
  obtain ⟨hw1, hwz, hlz⟩ := zI_b hI.1
  obtain ⟨hnx, hcnt, -⟩ := hI.2
  have hff := zI_f hI.1
  have hhf := zI_hf hI.1
  refine lv_if_eq (tgt := 331) hx hb dL_law_303 (by decide) (fun h => absurd h (by decide)) (fun _ => ?_)
  have J327 : ∀ (wd : Nat → Int64) (hv : Int32) (hk : Int32) (hc : Int32) (H : Heap) (locs : List Loc) (hP : va_P D vwCl (fmB (LB cI cC cJ cZ cQ x0 a0 a1 a2 a3 a4 a5 a6 v0 v1 t0 t1 h0 u0 u1 pa rg z nx cnt S wd hv hk hc) [0, 1, 2, 3, 4, 5, 6, 7]) H) (hD : va_D A (fmB (LB cI cC cJ cZ cQ x0 a0 a1 a2 a3 a4 a5 a6 v0 v1 t0 t1 h0 u0 u1 pa rg z nx cnt S wd hv hk hc) [0, 1, 2, 3, 4, 5, 6, 7])) (hS : va_S A s.heap H locs) (ls : Array Slot) (hl : lv_has ls 15 [(14, .int tw), (13, .int (nI cnt)), (12, .int (nI co)), (10, .long hx9), (9, .int hb9), (7, .long w7), (6, .int (nI (x / 12))), (5, .int (nI (x % 12))), (4, .int (nI x)), (3, .int (nI i)), (2, .int 1), (1, .ref x0), (0, .ref b)]), W p l e room_1 s m args below meth c H locs (cells + 27) (slots + 162) Q (F0 m 327 ls []) := by
    intro wd hv hk hc H locs hP hD hS ls hl
    refine lv_iconst (v := 1) hx hb dL_law_327 (by decide) ?_
    refine lv_goto (tgt := 332) hx hb dL_law_328 (by decide) ?_
    refine lv_istore_n (lv' := [(2, .int 1), (14, .int tw), (13, .int (nI cnt)), (12, .int (nI co)), (10, .long hx9), (9, .int hb9), (7, .long w7), (6, .int (nI (x / 12))), (5, .int (nI (x % 12))), (4, .int (nI x)), (3, .int (nI i)), (1, .ref x0), (0, .ref b)]) hx hb dL_law_332 rfl hl (by decide) rfl (fun ls hl => ?_)
    refine lv_iload_n hx hb dL_law_333 rfl (lv_at hl 0 rfl) ?_
    refine lv_if_eq (tgt := 423) hx hb dL_law_334 (by decide) (fun h => absurd h (by decide)) (fun _ => ?_)
    refine lv_iload hx hb dL_law_337 (lv_at hl 1 rfl) ?_
    refine lv_if_ne (tgt := 423) hx hb dL_law_339 (by decide) (fun c_339 => ?_) (fun c_339 => ?_)
    · exact K _ _ _ _ _ z nx cnt S wd hv hk hc (by omega) (by omega) (by first | exact hI | exact hIu) hP hD hS (lv_sub hl [10, 0, 11, 12] rfl)
    · refine lv_iload hx hb dL_law_342 (lv_at hl 9 rfl) ?_
      refine lv_bipush (v := 17) hx hb dL_law_344 (by decide) ?_
      refine lv_idiv hx hb dL_law_346 (by decide) ?_
      refine k_topi (y := nI (x / 17)) (pk_div (a := x) (d := 17) (by omega) (by omega) (by omega)) ?_
      refine lv_iconst (v := 3) hx hb dL_law_347 (by decide) ?_
      refine lv_irem hx hb dL_law_348 (by decide) ?_
      refine k_topi (y := nI ((x / 17) % 3)) (pk_rem (a := (x / 17)) (d := 3) (by omega) (by omega) (by omega)) ?_
      refine lv_if_ne (tgt := 423) hx hb dL_law_349 (by decide) (fun c_349 => ?_) (fun c_349 => ?_)
      · have c_349 : ¬ ((x / 17) % 3) = 0 := fun h => c_349 ((nI_eq (a := ((x / 17) % 3)) (b := 0) (by omega) (by omega)).mpr h)
        exact K _ _ _ _ _ z nx cnt S wd hv hk hc (by omega) (by omega) (by first | exact hI | exact hIu) hP hD hS (lv_sub hl [10, 0, 11, 12] rfl)
      · have c_349 : ((x / 17) % 3) = 0 := (nI_eq (a := ((x / 17) % 3)) (b := 0) (by omega) (by omega)).mp c_349
        obtain ⟨en, ec, es⟩ : nx = (no + 1) % 6 ∧ cnt = min (co + 1) 6 ∧ S = updS So no zo := by
          rcases htw with ⟨q1, -⟩ | ⟨-, q2⟩
          · rw [c_339] at q1
            exact absurd q1 (by decide)
          · rcases hpu with q | q | q
            · exact absurd (Or.inl q) q2
            · exact absurd (Or.inr q) q2
            · exact q
        refine lv_aload_n hx hb dL_law_352 rfl (lv_at hl 11 rfl) ?_
        refine lq_v (B0 := (LB cI cC cJ cZ cQ x0 a0 a1 a2 a3 a4 a5 a6 v0 v1 t0 t1 h0 u0 u1 pa rg z nx cnt S wd hv hk hc)) (B1 := (LB cI cC cJ cZ cQ x0 a0 a1 a2 a3 a4 a5 a6 v0 v1 t0 t1 h0 u0 u1 pa rg (S ((nx + 5) % 6)) ((nx + 5) % 6) (cnt - 1) S wd hv hk hc)) (U := [0, 1, 2, 3, 4, 5, 6, 7]) (isC := [0, 1, 2, 3, 4]) (isR := [5, 6, 7]) (As := []) (rest := []) ⟨hx, hb, hml, hown, hts⟩ (kX7_undo l D H.size cI cC cJ cZ cQ x0 v0 t0 h0 u0 a0 a1 a2 a3 a4 a5 a6 z v1 nx cnt pa S rg hnx hcnt hrg (by omega)) (cwV 0 hts gL_law_X7_undo rfl rfl rfl (by decide +kernel) ⟨Nat.le_of_ble_eq_true rfl, Nat.le_of_ble_eq_true rfl⟩) hP hD hK hS hA hN (by decide) rfl rfl rfl 0 7 rfl rfl rfl rfl hl.1 rfl (Nat.le_of_ble_eq_true rfl) dL_law_353 (lf_ok (by omega) (by omega)) (fun H locs hP hD hS => ?_)
        have hP : va_P D vwCl (fmB (LB cI cC cJ cZ cQ x0 a0 a1 a2 a3 a4 a5 a6 v0 v1 t0 t1 h0 u0 u1 pa rg (S ((nx + 5) % 6)) ((nx + 5) % 6) (cnt - 1) S wd hv hk hc) [0, 1, 2, 3, 4, 5, 6, 7]) H := hP
        have hD : va_D A (fmB (LB cI cC cJ cZ cQ x0 a0 a1 a2 a3 a4 a5 a6 v0 v1 t0 t1 h0 u0 u1 pa rg (S ((nx + 5) % 6)) ((nx + 5) % 6) (cnt - 1) S wd hv hk hc) [0, 1, 2, 3, 4, 5, 6, 7]) := hD
        obtain ⟨z9, hz9⟩ : ∃ q9 : StV, q9 = (S ((nx + 5) % 6)) := ⟨_, rfl⟩
        rw [← hz9] at hP hD
        have hP : va_P D vwCl (fmB (LB cI cC cJ cZ cQ x0 a0 a1 a2 a3 a4 a5 a6 v0 v1 t0 t1 h0 u0 u1 pa rg z9 ((nx + 5) % 6) (cnt - 1) S wd hv hk hc) [0, 1, 2, 3, 4, 5, 6, 7]) H := hP
        have hD : va_D A (fmB (LB cI cC cJ cZ cQ x0 a0 a1 a2 a3 a4 a5 a6 v0 v1 t0 t1 h0 u0 u1 pa rg z9 ((nx + 5) % 6) (cnt - 1) S wd hv hk hc) [0, 1, 2, 3, 4, 5, 6, 7]) := hD
        have hIu := oI_pop hI (by omega)
        have e9 : zo = z9 := by rw [hz9, en, es]; exact (pop_push hno).symm
        rw [← hz9] at hIu
        obtain ⟨hv1, hvz, hvl⟩ := zI_b hIu.1
        have hvf := zI_hf hIu.1
        refine lv_iload hx hb dL_law_356 (lv_at hl 3 rfl) ?_
        refine lv_bipush (v := 6) hx hb dL_law_358 (by decide) ?_
        refine lv_icmp_ge (tgt := 368) hx hb dL_law_360 (by decide) (fun c_360 => ?_) (fun c_360 => ?_)
        · have c_360 : 6 ≤ co := (nI_leI (a := 6) (b := co) (by omega) (by omega)).mp c_360
          refine lv_iconst (v := 5) hx hb dL_law_368 (by decide) ?_
          refine lv_icmp_ne (tgt := 421) hx hb dL_law_369 (by decide) (fun c_369 => ?_) (fun c_369 => ?_)
          · have c_369 : ¬ (cnt - 1) = 5 := fun h => c_369 ((nI_eq (a := (cnt - 1)) (b := 5) (by omega) (by omega)).mpr h)
            omega
          · have c_369 : (cnt - 1) = 5 := (nI_eq (a := (cnt - 1)) (b := 5) (by omega) (by omega)).mp c_369
            refine lv_aload_n hx hb dL_law_372 rfl (lv_at hl 11 rfl) ?_
            refine lq_v (B0 := (LB cI cC cJ cZ cQ x0 a0 a1 a2 a3 a4 a5 a6 v0 v1 t0 t1 h0 u0 u1 pa rg z9 ((nx + 5) % 6) (cnt - 1) S wd hv hk hc)) (B1 := (LB cI cC cJ cZ cQ x0 a0 a1 a2 a3 a4 a5 a6 v0 v1 t0 t1 h0 u0 u1 pa rg z9 ((nx + 5) % 6) (cnt - 1) S wd hv hk hc)) (U := [0, 1, 2, 3, 4, 5, 6, 7]) (isC := [0, 2, 3]) (isR := [1, 4, 5, 6, 7]) (As := []) (rest := []) ⟨hx, hb, hml, hown, hts⟩ (kX7_savedStates l D H.size cI cC cJ cZ cQ x0 v0 t0 h0 u0 a0 v1 ((nx + 5) % 6) (cnt - 1) rg) (cwV 0 hts gL_law_X7_savedStates rfl rfl rfl (by decide +kernel) ⟨Nat.le_of_ble_eq_true rfl, Nat.le_of_ble_eq_true rfl⟩) hP hD hK hS hA hN (by decide) rfl rfl rfl 0 7 rfl rfl rfl rfl hl.1 rfl (Nat.le_of_ble_eq_true rfl) dL_law_373 (lf_ok (by omega) (by omega)) (fun H locs hP hD hS => ?_)
            refine lv_iload hx hb dL_law_376 (lv_at hl 3 rfl) ?_
            refine lv_bipush (v := 6) hx hb dL_law_378 (by decide) ?_
            refine lv_icmp_ge (tgt := 388) hx hb dL_law_380 (by decide) (fun c_380 => ?_) (fun c_380 => ?_)
            · have c_380 : 6 ≤ co := (nI_leI (a := 6) (b := co) (by omega) (by omega)).mp c_380
              refine lv_iconst (v := 5) hx hb dL_law_388 (by decide) ?_
              refine lv_icmp_ne (tgt := 421) hx hb dL_law_389 (by decide) (fun c_389 => ?_) (fun c_389 => ?_)
              · have c_389 : ¬ (cnt - 1) = 5 := fun h => c_389 ((nI_eq (a := (cnt - 1)) (b := 5) (by omega) (by omega)).mpr h)
                omega
              · have c_389 : (cnt - 1) = 5 := (nI_eq (a := (cnt - 1)) (b := 5) (by omega) (by omega)).mp c_389
                refine lv_aload_n hx hb dL_law_392 rfl (lv_at hl 11 rfl) ?_
                refine lq_ol (B0 := (LB cI cC cJ cZ cQ x0 a0 a1 a2 a3 a4 a5 a6 v0 v1 t0 t1 h0 u0 u1 pa rg z9 ((nx + 5) % 6) (cnt - 1) S wd hv hk hc)) (B1 := fun u9 => LB cI cC cJ cZ cQ x0 a0 a1 a2 a3 a4 a5 a6 v0 v1 t0 t1 h0 u0 u1 pa rg u9.1 u9.2.1 u9.2.2.1 u9.2.2.2.1 u9.2.2.2.2.1 u9.2.2.2.2.2.1 u9.2.2.2.2.2.2.1 u9.2.2.2.2.2.2.2) (U := [0, 1, 2, 3, 4, 5, 6, 7]) (As := [.ref x0]) (rest := []) ⟨hx, hb, hml, hown, hts⟩ (mL_seen l hst D H.size cI cC cJ cZ cQ x0 a0 a1 a2 a3 a4 a5 a6 v0 v1 t0 t1 h0 u0 u1 pa rg z9 ((nx + 5) % 6) (cnt - 1) S wd hv hk hc hIu (by first | assumption | omega)) (va_cwS 1 hts gL_law_L_seen rfl rfl rfl (by decide +kernel) ⟨Nat.le_of_ble_eq_true rfl, Nat.le_of_ble_eq_true rfl⟩) hP hD hK hS hA hN hE hO (fun _ => rfl) rfl hl.1 rfl (Nat.le_of_ble_eq_true rfl) dL_law_393 (lf_ok (by omega) (by omega)) (fun r_9 u_9 H locs hr_9 hP hD hS => ?_)
                obtain ⟨z_9, nx_9, cnt_9, S_9, wd_9, hv_9, hk_9, hc_9⟩ := u_9
                have hP : va_P D vwCl (fmB (LB cI cC cJ cZ cQ x0 a0 a1 a2 a3 a4 a5 a6 v0 v1 t0 t1 h0 u0 u1 pa rg z_9 nx_9 cnt_9 S_9 wd_9 hv_9 hk_9 hc_9) [0, 1, 2, 3, 4, 5, 6, 7]) H := hP
                have hD : va_D A (fmB (LB cI cC cJ cZ cQ x0 a0 a1 a2 a3 a4 a5 a6 v0 v1 t0 t1 h0 u0 u1 pa rg z_9 nx_9 cnt_9 S_9 wd_9 hv_9 hk_9 hc_9) [0, 1, 2, 3, 4, 5, 6, 7]) := hD
                have hr_9 : (seenP z9) = r_9 ∧ z9 = z_9 ∧ ((nx + 5) % 6) = nx_9 ∧ (cnt - 1) = cnt_9 ∧ S = S_9 := hr_9
                obtain ⟨rfl, rfl, rfl, rfl, rfl⟩ := hr_9
                have hP : va_P D vwCl (fmB (LB cI cC cJ cZ cQ x0 a0 a1 a2 a3 a4 a5 a6 v0 v1 t0 t1 h0 u0 u1 pa rg z9 ((nx + 5) % 6) (cnt - 1) S wd_9 hv_9 hk_9 hc_9) [0, 1, 2, 3, 4, 5, 6, 7]) H := hP
                have hD : va_D A (fmB (LB cI cC cJ cZ cQ x0 a0 a1 a2 a3 a4 a5 a6 v0 v1 t0 t1 h0 u0 u1 pa rg z9 ((nx + 5) % 6) (cnt - 1) S wd_9 hv_9 hk_9 hc_9) [0, 1, 2, 3, 4, 5, 6, 7]) := hD
                refine k_topl (y := w7) (by rw [hw7, e9]) ?_
                refine lv_lload hx hb dL_law_396 (lv_at hl 6 rfl) ?_
                refine W.lcmp hx hb dL_law_398 ?_
                refine lv_if_ne (tgt := 421) hx hb dL_law_399 (by decide) (fun c_399 => ?_) (fun c_399 => ?_)
                · exact absurd (k_cmp0.mpr rfl) c_399
                · refine lv_iload hx hb dL_law_402 (lv_at hl 5 rfl) ?_
                  refine lv_if_eq (tgt := 417) hx hb dL_law_404 (by decide) (fun c_404 => ?_) (fun c_404 => ?_)
                  · refine lv_iconst (v := 1) hx hb dL_law_417 (by decide) ?_
                    refine lv_goto (tgt := 422) hx hb dL_law_418 (by decide) ?_
                    refine lv_istore_n (lv' := [(2, .int 1), (14, .int tw), (13, .int (nI cnt)), (12, .int (nI co)), (10, .long hx9), (9, .int hb9), (7, .long w7), (6, .int (nI (x / 12))), (5, .int (nI (x % 12))), (4, .int (nI x)), (3, .int (nI i)), (1, .ref x0), (0, .ref b)]) hx hb dL_law_422 rfl hl (by decide) rfl (fun ls hl => ?_)
                    exact K _ _ _ _ _ z9 ((nx + 5) % 6) (cnt - 1) S wd_9 hv_9 hk_9 hc_9 (by omega) (by omega) (by first | exact hI | exact hIu) hP hD hS (lv_sub hl [10, 0, 11, 12] rfl)
                  · refine lv_aload_n hx hb dL_law_407 rfl (lv_at hl 11 rfl) ?_
                    refine lq_lx (B0 := (LB cI cC cJ cZ cQ x0 a0 a1 a2 a3 a4 a5 a6 v0 v1 t0 t1 h0 u0 u1 pa rg z9 ((nx + 5) % 6) (cnt - 1) S wd_9 hv_9 hk_9 hc_9)) (B1 := (fun u_12 => LB cI cC cJ cZ cQ x0 a0 a1 a2 a3 a4 a5 a6 v0 v1 t0 t1 h0 u0 u1 pa rg z9 ((nx + 5) % 6) (cnt - 1) S (fillG z9.2.2.2.2.2.2.2.1 z9.2.2.2.2.2.1) u_12.1 u_12.2.1 u_12.2.2)) (U := [0, 1, 2, 3, 4, 5, 6, 7]) (isC := [0, 1, 6, 7]) (isR := [2, 3, 4, 5]) (As := []) (rest := []) ⟨hx, hb, hml, hown, hts⟩ (kX7_digest l D H.size cI cC cJ cZ cQ x0 v0 t0 h0 u0 a0 a1 a2 a3 a4 a5 a6 z9 hv_9 hk_9 hc_9 u1 wd_9 hvz hvl hvf) (cwV 0 hts gL_law_X7_digest rfl rfl rfl (by decide +kernel) ⟨Nat.le_of_ble_eq_true rfl, Nat.le_of_ble_eq_true rfl⟩) hP hD hK hS hA hN (by decide) rfl (fun _ => rfl) (fun _ => rfl) 0 7 rfl rfl rfl rfl hl.1 rfl (Nat.le_of_ble_eq_true rfl) dL_law_408 (lf_ok (by omega) (by omega)) (fun u_12 H locs hP hD hS => ?_)
                    have hP : va_P D vwCl (fmB (LB cI cC cJ cZ cQ x0 a0 a1 a2 a3 a4 a5 a6 v0 v1 t0 t1 h0 u0 u1 pa rg z9 ((nx + 5) % 6) (cnt - 1) S (fillG z9.2.2.2.2.2.2.2.1 z9.2.2.2.2.2.1) u_12.1 u_12.2.1 u_12.2.2) [0, 1, 2, 3, 4, 5, 6, 7]) H := hP
                    have hD : va_D A (fmB (LB cI cC cJ cZ cQ x0 a0 a1 a2 a3 a4 a5 a6 v0 v1 t0 t1 h0 u0 u1 pa rg z9 ((nx + 5) % 6) (cnt - 1) S (fillG z9.2.2.2.2.2.2.2.1 z9.2.2.2.2.2.1) u_12.1 u_12.2.1 u_12.2.2) [0, 1, 2, 3, 4, 5, 6, 7]) := hD
                    refine k_topl (y := digP z9) rfl ?_
                    refine lv_lload hx hb dL_law_411 (lv_at hl 4 rfl) ?_
                    refine W.lcmp hx hb dL_law_413 ?_
                    refine lv_if_ne (tgt := 421) hx hb dL_law_414 (by decide) (fun c_414 => ?_) (fun c_414 => ?_)
                    · exact absurd (k_cmp0.mpr (by rw [hhx.resolve_left c_404, e9])) c_414
                    · refine lv_iconst (v := 1) hx hb dL_law_417 (by decide) ?_
                      refine lv_goto (tgt := 422) hx hb dL_law_418 (by decide) ?_
                      refine lv_istore_n (lv' := [(2, .int 1), (14, .int tw), (13, .int (nI cnt)), (12, .int (nI co)), (10, .long hx9), (9, .int hb9), (7, .long w7), (6, .int (nI (x / 12))), (5, .int (nI (x % 12))), (4, .int (nI x)), (3, .int (nI i)), (1, .ref x0), (0, .ref b)]) hx hb dL_law_422 rfl hl (by decide) rfl (fun ls hl => ?_)
                      exact K _ _ _ _ _ z9 ((nx + 5) % 6) (cnt - 1) S (fillG z9.2.2.2.2.2.2.2.1 z9.2.2.2.2.2.1) u_12.1 u_12.2.1 u_12.2.2 (by omega) (by omega) (by first | exact hI | exact hIu) hP hD hS (lv_sub hl [10, 0, 11, 12] rfl)
            · have c_380 : ¬ 6 ≤ co := fun h => c_380 ((nI_leI (a := 6) (b := co) (by omega) (by omega)).mpr h)
              refine lv_iload hx hb dL_law_383 (lv_at hl 3 rfl) ?_
              refine lv_goto (tgt := 389) hx hb dL_law_385 (by decide) ?_
              refine lv_icmp_ne (tgt := 421) hx hb dL_law_389 (by decide) (fun c_389 => ?_) (fun c_389 => ?_)
              · have c_389 : ¬ (cnt - 1) = co := fun h => c_389 ((nI_eq (a := (cnt - 1)) (b := co) (by omega) (by omega)).mpr h)
                omega
              · have c_389 : (cnt - 1) = co := (nI_eq (a := (cnt - 1)) (b := co) (by omega) (by omega)).mp c_389
                refine lv_aload_n hx hb dL_law_392 rfl (lv_at hl 11 rfl) ?_
                refine lq_ol (B0 := (LB cI cC cJ cZ cQ x0 a0 a1 a2 a3 a4 a5 a6 v0 v1 t0 t1 h0 u0 u1 pa rg z9 ((nx + 5) % 6) (cnt - 1) S wd hv hk hc)) (B1 := fun u9 => LB cI cC cJ cZ cQ x0 a0 a1 a2 a3 a4 a5 a6 v0 v1 t0 t1 h0 u0 u1 pa rg u9.1 u9.2.1 u9.2.2.1 u9.2.2.2.1 u9.2.2.2.2.1 u9.2.2.2.2.2.1 u9.2.2.2.2.2.2.1 u9.2.2.2.2.2.2.2) (U := [0, 1, 2, 3, 4, 5, 6, 7]) (As := [.ref x0]) (rest := []) ⟨hx, hb, hml, hown, hts⟩ (mL_seen l hst D H.size cI cC cJ cZ cQ x0 a0 a1 a2 a3 a4 a5 a6 v0 v1 t0 t1 h0 u0 u1 pa rg z9 ((nx + 5) % 6) (cnt - 1) S wd hv hk hc hIu (by first | assumption | omega)) (va_cwS 1 hts gL_law_L_seen rfl rfl rfl (by decide +kernel) ⟨Nat.le_of_ble_eq_true rfl, Nat.le_of_ble_eq_true rfl⟩) hP hD hK hS hA hN hE hO (fun _ => rfl) rfl hl.1 rfl (Nat.le_of_ble_eq_true rfl) dL_law_393 (lf_ok (by omega) (by omega)) (fun r_15 u_15 H locs hr_15 hP hD hS => ?_)
                obtain ⟨z_15, nx_15, cnt_15, S_15, wd_15, hv_15, hk_15, hc_15⟩ := u_15
                have hP : va_P D vwCl (fmB (LB cI cC cJ cZ cQ x0 a0 a1 a2 a3 a4 a5 a6 v0 v1 t0 t1 h0 u0 u1 pa rg z_15 nx_15 cnt_15 S_15 wd_15 hv_15 hk_15 hc_15) [0, 1, 2, 3, 4, 5, 6, 7]) H := hP
                have hD : va_D A (fmB (LB cI cC cJ cZ cQ x0 a0 a1 a2 a3 a4 a5 a6 v0 v1 t0 t1 h0 u0 u1 pa rg z_15 nx_15 cnt_15 S_15 wd_15 hv_15 hk_15 hc_15) [0, 1, 2, 3, 4, 5, 6, 7]) := hD
                have hr_15 : (seenP z9) = r_15 ∧ z9 = z_15 ∧ ((nx + 5) % 6) = nx_15 ∧ (cnt - 1) = cnt_15 ∧ S = S_15 := hr_15
                obtain ⟨rfl, rfl, rfl, rfl, rfl⟩ := hr_15
                have hP : va_P D vwCl (fmB (LB cI cC cJ cZ cQ x0 a0 a1 a2 a3 a4 a5 a6 v0 v1 t0 t1 h0 u0 u1 pa rg z9 ((nx + 5) % 6) (cnt - 1) S wd_15 hv_15 hk_15 hc_15) [0, 1, 2, 3, 4, 5, 6, 7]) H := hP
                have hD : va_D A (fmB (LB cI cC cJ cZ cQ x0 a0 a1 a2 a3 a4 a5 a6 v0 v1 t0 t1 h0 u0 u1 pa rg z9 ((nx + 5) % 6) (cnt - 1) S wd_15 hv_15 hk_15 hc_15) [0, 1, 2, 3, 4, 5, 6, 7]) := hD
                refine k_topl (y := w7) (by rw [hw7, e9]) ?_
                refine lv_lload hx hb dL_law_396 (lv_at hl 6 rfl) ?_
                refine W.lcmp hx hb dL_law_398 ?_
                refine lv_if_ne (tgt := 421) hx hb dL_law_399 (by decide) (fun c_399 => ?_) (fun c_399 => ?_)
                · exact absurd (k_cmp0.mpr rfl) c_399
                · refine lv_iload hx hb dL_law_402 (lv_at hl 5 rfl) ?_
                  refine lv_if_eq (tgt := 417) hx hb dL_law_404 (by decide) (fun c_404 => ?_) (fun c_404 => ?_)
                  · refine lv_iconst (v := 1) hx hb dL_law_417 (by decide) ?_
                    refine lv_goto (tgt := 422) hx hb dL_law_418 (by decide) ?_
                    refine lv_istore_n (lv' := [(2, .int 1), (14, .int tw), (13, .int (nI cnt)), (12, .int (nI co)), (10, .long hx9), (9, .int hb9), (7, .long w7), (6, .int (nI (x / 12))), (5, .int (nI (x % 12))), (4, .int (nI x)), (3, .int (nI i)), (1, .ref x0), (0, .ref b)]) hx hb dL_law_422 rfl hl (by decide) rfl (fun ls hl => ?_)
                    exact K _ _ _ _ _ z9 ((nx + 5) % 6) (cnt - 1) S wd_15 hv_15 hk_15 hc_15 (by omega) (by omega) (by first | exact hI | exact hIu) hP hD hS (lv_sub hl [10, 0, 11, 12] rfl)
                  · refine lv_aload_n hx hb dL_law_407 rfl (lv_at hl 11 rfl) ?_
                    refine lq_lx (B0 := (LB cI cC cJ cZ cQ x0 a0 a1 a2 a3 a4 a5 a6 v0 v1 t0 t1 h0 u0 u1 pa rg z9 ((nx + 5) % 6) (cnt - 1) S wd_15 hv_15 hk_15 hc_15)) (B1 := (fun u_18 => LB cI cC cJ cZ cQ x0 a0 a1 a2 a3 a4 a5 a6 v0 v1 t0 t1 h0 u0 u1 pa rg z9 ((nx + 5) % 6) (cnt - 1) S (fillG z9.2.2.2.2.2.2.2.1 z9.2.2.2.2.2.1) u_18.1 u_18.2.1 u_18.2.2)) (U := [0, 1, 2, 3, 4, 5, 6, 7]) (isC := [0, 1, 6, 7]) (isR := [2, 3, 4, 5]) (As := []) (rest := []) ⟨hx, hb, hml, hown, hts⟩ (kX7_digest l D H.size cI cC cJ cZ cQ x0 v0 t0 h0 u0 a0 a1 a2 a3 a4 a5 a6 z9 hv_15 hk_15 hc_15 u1 wd_15 hvz hvl hvf) (cwV 0 hts gL_law_X7_digest rfl rfl rfl (by decide +kernel) ⟨Nat.le_of_ble_eq_true rfl, Nat.le_of_ble_eq_true rfl⟩) hP hD hK hS hA hN (by decide) rfl (fun _ => rfl) (fun _ => rfl) 0 7 rfl rfl rfl rfl hl.1 rfl (Nat.le_of_ble_eq_true rfl) dL_law_408 (lf_ok (by omega) (by omega)) (fun u_18 H locs hP hD hS => ?_)
                    have hP : va_P D vwCl (fmB (LB cI cC cJ cZ cQ x0 a0 a1 a2 a3 a4 a5 a6 v0 v1 t0 t1 h0 u0 u1 pa rg z9 ((nx + 5) % 6) (cnt - 1) S (fillG z9.2.2.2.2.2.2.2.1 z9.2.2.2.2.2.1) u_18.1 u_18.2.1 u_18.2.2) [0, 1, 2, 3, 4, 5, 6, 7]) H := hP
                    have hD : va_D A (fmB (LB cI cC cJ cZ cQ x0 a0 a1 a2 a3 a4 a5 a6 v0 v1 t0 t1 h0 u0 u1 pa rg z9 ((nx + 5) % 6) (cnt - 1) S (fillG z9.2.2.2.2.2.2.2.1 z9.2.2.2.2.2.1) u_18.1 u_18.2.1 u_18.2.2) [0, 1, 2, 3, 4, 5, 6, 7]) := hD
                    refine k_topl (y := digP z9) rfl ?_
                    refine lv_lload hx hb dL_law_411 (lv_at hl 4 rfl) ?_
                    refine W.lcmp hx hb dL_law_413 ?_
                    refine lv_if_ne (tgt := 421) hx hb dL_law_414 (by decide) (fun c_414 => ?_) (fun c_414 => ?_)
                    · exact absurd (k_cmp0.mpr (by rw [hhx.resolve_left c_404, e9])) c_414
                    · refine lv_iconst (v := 1) hx hb dL_law_417 (by decide) ?_
                      refine lv_goto (tgt := 422) hx hb dL_law_418 (by decide) ?_
                      refine lv_istore_n (lv' := [(2, .int 1), (14, .int tw), (13, .int (nI cnt)), (12, .int (nI co)), (10, .long hx9), (9, .int hb9), (7, .long w7), (6, .int (nI (x / 12))), (5, .int (nI (x % 12))), (4, .int (nI x)), (3, .int (nI i)), (1, .ref x0), (0, .ref b)]) hx hb dL_law_422 rfl hl (by decide) rfl (fun ls hl => ?_)
                      exact K _ _ _ _ _ z9 ((nx + 5) % 6) (cnt - 1) S (fillG z9.2.2.2.2.2.2.2.1 z9.2.2.2.2.2.1) u_18.1 u_18.2.1 u_18.2.2 (by omega) (by omega) (by first | exact hI | exact hIu) hP hD hS (lv_sub hl [10, 0, 11, 12] rfl)
        · have c_360 : ¬ 6 ≤ co := fun h => c_360 ((nI_leI (a := 6) (b := co) (by omega) (by omega)).mpr h)
          refine lv_iload hx hb dL_law_363 (lv_at hl 3 rfl) ?_
          refine lv_goto (tgt := 369) hx hb dL_law_365 (by decide) ?_
          refine lv_icmp_ne (tgt := 421) hx hb dL_law_369 (by decide) (fun c_369 => ?_) (fun c_369 => ?_)
          · have c_369 : ¬ (cnt - 1) = co := fun h => c_369 ((nI_eq (a := (cnt - 1)) (b := co) (by omega) (by omega)).mpr h)
            omega
          · have c_369 : (cnt - 1) = co := (nI_eq (a := (cnt - 1)) (b := co) (by omega) (by omega)).mp c_369
            refine lv_aload_n hx hb dL_law_372 rfl (lv_at hl 11 rfl) ?_
            refine lq_v (B0 := (LB cI cC cJ cZ cQ x0 a0 a1 a2 a3 a4 a5 a6 v0 v1 t0 t1 h0 u0 u1 pa rg z9 ((nx + 5) % 6) (cnt - 1) S wd hv hk hc)) (B1 := (LB cI cC cJ cZ cQ x0 a0 a1 a2 a3 a4 a5 a6 v0 v1 t0 t1 h0 u0 u1 pa rg z9 ((nx + 5) % 6) (cnt - 1) S wd hv hk hc)) (U := [0, 1, 2, 3, 4, 5, 6, 7]) (isC := [0, 2, 3]) (isR := [1, 4, 5, 6, 7]) (As := []) (rest := []) ⟨hx, hb, hml, hown, hts⟩ (kX7_savedStates l D H.size cI cC cJ cZ cQ x0 v0 t0 h0 u0 a0 v1 ((nx + 5) % 6) (cnt - 1) rg) (cwV 0 hts gL_law_X7_savedStates rfl rfl rfl (by decide +kernel) ⟨Nat.le_of_ble_eq_true rfl, Nat.le_of_ble_eq_true rfl⟩) hP hD hK hS hA hN (by decide) rfl rfl rfl 0 7 rfl rfl rfl rfl hl.1 rfl (Nat.le_of_ble_eq_true rfl) dL_law_373 (lf_ok (by omega) (by omega)) (fun H locs hP hD hS => ?_)
            refine lv_iload hx hb dL_law_376 (lv_at hl 3 rfl) ?_
            refine lv_bipush (v := 6) hx hb dL_law_378 (by decide) ?_
            refine lv_icmp_ge (tgt := 388) hx hb dL_law_380 (by decide) (fun c_380 => ?_) (fun c_380 => ?_)
            · have c_380 : 6 ≤ co := (nI_leI (a := 6) (b := co) (by omega) (by omega)).mp c_380
              refine lv_iconst (v := 5) hx hb dL_law_388 (by decide) ?_
              refine lv_icmp_ne (tgt := 421) hx hb dL_law_389 (by decide) (fun c_389 => ?_) (fun c_389 => ?_)
              · have c_389 : ¬ (cnt - 1) = 5 := fun h => c_389 ((nI_eq (a := (cnt - 1)) (b := 5) (by omega) (by omega)).mpr h)
                omega
              · have c_389 : (cnt - 1) = 5 := (nI_eq (a := (cnt - 1)) (b := 5) (by omega) (by omega)).mp c_389
                refine lv_aload_n hx hb dL_law_392 rfl (lv_at hl 11 rfl) ?_
                refine lq_ol (B0 := (LB cI cC cJ cZ cQ x0 a0 a1 a2 a3 a4 a5 a6 v0 v1 t0 t1 h0 u0 u1 pa rg z9 ((nx + 5) % 6) (cnt - 1) S wd hv hk hc)) (B1 := fun u9 => LB cI cC cJ cZ cQ x0 a0 a1 a2 a3 a4 a5 a6 v0 v1 t0 t1 h0 u0 u1 pa rg u9.1 u9.2.1 u9.2.2.1 u9.2.2.2.1 u9.2.2.2.2.1 u9.2.2.2.2.2.1 u9.2.2.2.2.2.2.1 u9.2.2.2.2.2.2.2) (U := [0, 1, 2, 3, 4, 5, 6, 7]) (As := [.ref x0]) (rest := []) ⟨hx, hb, hml, hown, hts⟩ (mL_seen l hst D H.size cI cC cJ cZ cQ x0 a0 a1 a2 a3 a4 a5 a6 v0 v1 t0 t1 h0 u0 u1 pa rg z9 ((nx + 5) % 6) (cnt - 1) S wd hv hk hc hIu (by first | assumption | omega)) (va_cwS 1 hts gL_law_L_seen rfl rfl rfl (by decide +kernel) ⟨Nat.le_of_ble_eq_true rfl, Nat.le_of_ble_eq_true rfl⟩) hP hD hK hS hA hN hE hO (fun _ => rfl) rfl hl.1 rfl (Nat.le_of_ble_eq_true rfl) dL_law_393 (lf_ok (by omega) (by omega)) (fun r_24 u_24 H locs hr_24 hP hD hS => ?_)
                obtain ⟨z_24, nx_24, cnt_24, S_24, wd_24, hv_24, hk_24, hc_24⟩ := u_24
                have hP : va_P D vwCl (fmB (LB cI cC cJ cZ cQ x0 a0 a1 a2 a3 a4 a5 a6 v0 v1 t0 t1 h0 u0 u1 pa rg z_24 nx_24 cnt_24 S_24 wd_24 hv_24 hk_24 hc_24) [0, 1, 2, 3, 4, 5, 6, 7]) H := hP
                have hD : va_D A (fmB (LB cI cC cJ cZ cQ x0 a0 a1 a2 a3 a4 a5 a6 v0 v1 t0 t1 h0 u0 u1 pa rg z_24 nx_24 cnt_24 S_24 wd_24 hv_24 hk_24 hc_24) [0, 1, 2, 3, 4, 5, 6, 7]) := hD
                have hr_24 : (seenP z9) = r_24 ∧ z9 = z_24 ∧ ((nx + 5) % 6) = nx_24 ∧ (cnt - 1) = cnt_24 ∧ S = S_24 := hr_24
                obtain ⟨rfl, rfl, rfl, rfl, rfl⟩ := hr_24
                have hP : va_P D vwCl (fmB (LB cI cC cJ cZ cQ x0 a0 a1 a2 a3 a4 a5 a6 v0 v1 t0 t1 h0 u0 u1 pa rg z9 ((nx + 5) % 6) (cnt - 1) S wd_24 hv_24 hk_24 hc_24) [0, 1, 2, 3, 4, 5, 6, 7]) H := hP
                have hD : va_D A (fmB (LB cI cC cJ cZ cQ x0 a0 a1 a2 a3 a4 a5 a6 v0 v1 t0 t1 h0 u0 u1 pa rg z9 ((nx + 5) % 6) (cnt - 1) S wd_24 hv_24 hk_24 hc_24) [0, 1, 2, 3, 4, 5, 6, 7]) := hD
                refine k_topl (y := w7) (by rw [hw7, e9]) ?_
                refine lv_lload hx hb dL_law_396 (lv_at hl 6 rfl) ?_
                refine W.lcmp hx hb dL_law_398 ?_
                refine lv_if_ne (tgt := 421) hx hb dL_law_399 (by decide) (fun c_399 => ?_) (fun c_399 => ?_)
                · exact absurd (k_cmp0.mpr rfl) c_399
                · refine lv_iload hx hb dL_law_402 (lv_at hl 5 rfl) ?_
                  refine lv_if_eq (tgt := 417) hx hb dL_law_404 (by decide) (fun c_404 => ?_) (fun c_404 => ?_)
                  · refine lv_iconst (v := 1) hx hb dL_law_417 (by decide) ?_
                    refine lv_goto (tgt := 422) hx hb dL_law_418 (by decide) ?_
                    refine lv_istore_n (lv' := [(2, .int 1), (14, .int tw), (13, .int (nI cnt)), (12, .int (nI co)), (10, .long hx9), (9, .int hb9), (7, .long w7), (6, .int (nI (x / 12))), (5, .int (nI (x % 12))), (4, .int (nI x)), (3, .int (nI i)), (1, .ref x0), (0, .ref b)]) hx hb dL_law_422 rfl hl (by decide) rfl (fun ls hl => ?_)
                    exact K _ _ _ _ _ z9 ((nx + 5) % 6) (cnt - 1) S wd_24 hv_24 hk_24 hc_24 (by omega) (by omega) (by first | exact hI | exact hIu) hP hD hS (lv_sub hl [10, 0, 11, 12] rfl)
                  · refine lv_aload_n hx hb dL_law_407 rfl (lv_at hl 11 rfl) ?_
                    refine lq_lx (B0 := (LB cI cC cJ cZ cQ x0 a0 a1 a2 a3 a4 a5 a6 v0 v1 t0 t1 h0 u0 u1 pa rg z9 ((nx + 5) % 6) (cnt - 1) S wd_24 hv_24 hk_24 hc_24)) (B1 := (fun u_27 => LB cI cC cJ cZ cQ x0 a0 a1 a2 a3 a4 a5 a6 v0 v1 t0 t1 h0 u0 u1 pa rg z9 ((nx + 5) % 6) (cnt - 1) S (fillG z9.2.2.2.2.2.2.2.1 z9.2.2.2.2.2.1) u_27.1 u_27.2.1 u_27.2.2)) (U := [0, 1, 2, 3, 4, 5, 6, 7]) (isC := [0, 1, 6, 7]) (isR := [2, 3, 4, 5]) (As := []) (rest := []) ⟨hx, hb, hml, hown, hts⟩ (kX7_digest l D H.size cI cC cJ cZ cQ x0 v0 t0 h0 u0 a0 a1 a2 a3 a4 a5 a6 z9 hv_24 hk_24 hc_24 u1 wd_24 hvz hvl hvf) (cwV 0 hts gL_law_X7_digest rfl rfl rfl (by decide +kernel) ⟨Nat.le_of_ble_eq_true rfl, Nat.le_of_ble_eq_true rfl⟩) hP hD hK hS hA hN (by decide) rfl (fun _ => rfl) (fun _ => rfl) 0 7 rfl rfl rfl rfl hl.1 rfl (Nat.le_of_ble_eq_true rfl) dL_law_408 (lf_ok (by omega) (by omega)) (fun u_27 H locs hP hD hS => ?_)
                    have hP : va_P D vwCl (fmB (LB cI cC cJ cZ cQ x0 a0 a1 a2 a3 a4 a5 a6 v0 v1 t0 t1 h0 u0 u1 pa rg z9 ((nx + 5) % 6) (cnt - 1) S (fillG z9.2.2.2.2.2.2.2.1 z9.2.2.2.2.2.1) u_27.1 u_27.2.1 u_27.2.2) [0, 1, 2, 3, 4, 5, 6, 7]) H := hP
                    have hD : va_D A (fmB (LB cI cC cJ cZ cQ x0 a0 a1 a2 a3 a4 a5 a6 v0 v1 t0 t1 h0 u0 u1 pa rg z9 ((nx + 5) % 6) (cnt - 1) S (fillG z9.2.2.2.2.2.2.2.1 z9.2.2.2.2.2.1) u_27.1 u_27.2.1 u_27.2.2) [0, 1, 2, 3, 4, 5, 6, 7]) := hD
                    refine k_topl (y := digP z9) rfl ?_
                    refine lv_lload hx hb dL_law_411 (lv_at hl 4 rfl) ?_
                    refine W.lcmp hx hb dL_law_413 ?_
                    refine lv_if_ne (tgt := 421) hx hb dL_law_414 (by decide) (fun c_414 => ?_) (fun c_414 => ?_)
                    · exact absurd (k_cmp0.mpr (by rw [hhx.resolve_left c_404, e9])) c_414
                    · refine lv_iconst (v := 1) hx hb dL_law_417 (by decide) ?_
                      refine lv_goto (tgt := 422) hx hb dL_law_418 (by decide) ?_
                      refine lv_istore_n (lv' := [(2, .int 1), (14, .int tw), (13, .int (nI cnt)), (12, .int (nI co)), (10, .long hx9), (9, .int hb9), (7, .long w7), (6, .int (nI (x / 12))), (5, .int (nI (x % 12))), (4, .int (nI x)), (3, .int (nI i)), (1, .ref x0), (0, .ref b)]) hx hb dL_law_422 rfl hl (by decide) rfl (fun ls hl => ?_)
                      exact K _ _ _ _ _ z9 ((nx + 5) % 6) (cnt - 1) S (fillG z9.2.2.2.2.2.2.2.1 z9.2.2.2.2.2.1) u_27.1 u_27.2.1 u_27.2.2 (by omega) (by omega) (by first | exact hI | exact hIu) hP hD hS (lv_sub hl [10, 0, 11, 12] rfl)
            · have c_380 : ¬ 6 ≤ co := fun h => c_380 ((nI_leI (a := 6) (b := co) (by omega) (by omega)).mpr h)
              refine lv_iload hx hb dL_law_383 (lv_at hl 3 rfl) ?_
              refine lv_goto (tgt := 389) hx hb dL_law_385 (by decide) ?_
              refine lv_icmp_ne (tgt := 421) hx hb dL_law_389 (by decide) (fun c_389 => ?_) (fun c_389 => ?_)
              · have c_389 : ¬ (cnt - 1) = co := fun h => c_389 ((nI_eq (a := (cnt - 1)) (b := co) (by omega) (by omega)).mpr h)
                omega
              · have c_389 : (cnt - 1) = co := (nI_eq (a := (cnt - 1)) (b := co) (by omega) (by omega)).mp c_389
                refine lv_aload_n hx hb dL_law_392 rfl (lv_at hl 11 rfl) ?_
                refine lq_ol (B0 := (LB cI cC cJ cZ cQ x0 a0 a1 a2 a3 a4 a5 a6 v0 v1 t0 t1 h0 u0 u1 pa rg z9 ((nx + 5) % 6) (cnt - 1) S wd hv hk hc)) (B1 := fun u9 => LB cI cC cJ cZ cQ x0 a0 a1 a2 a3 a4 a5 a6 v0 v1 t0 t1 h0 u0 u1 pa rg u9.1 u9.2.1 u9.2.2.1 u9.2.2.2.1 u9.2.2.2.2.1 u9.2.2.2.2.2.1 u9.2.2.2.2.2.2.1 u9.2.2.2.2.2.2.2) (U := [0, 1, 2, 3, 4, 5, 6, 7]) (As := [.ref x0]) (rest := []) ⟨hx, hb, hml, hown, hts⟩ (mL_seen l hst D H.size cI cC cJ cZ cQ x0 a0 a1 a2 a3 a4 a5 a6 v0 v1 t0 t1 h0 u0 u1 pa rg z9 ((nx + 5) % 6) (cnt - 1) S wd hv hk hc hIu (by first | assumption | omega)) (va_cwS 1 hts gL_law_L_seen rfl rfl rfl (by decide +kernel) ⟨Nat.le_of_ble_eq_true rfl, Nat.le_of_ble_eq_true rfl⟩) hP hD hK hS hA hN hE hO (fun _ => rfl) rfl hl.1 rfl (Nat.le_of_ble_eq_true rfl) dL_law_393 (lf_ok (by omega) (by omega)) (fun r_30 u_30 H locs hr_30 hP hD hS => ?_)
                obtain ⟨z_30, nx_30, cnt_30, S_30, wd_30, hv_30, hk_30, hc_30⟩ := u_30
                have hP : va_P D vwCl (fmB (LB cI cC cJ cZ cQ x0 a0 a1 a2 a3 a4 a5 a6 v0 v1 t0 t1 h0 u0 u1 pa rg z_30 nx_30 cnt_30 S_30 wd_30 hv_30 hk_30 hc_30) [0, 1, 2, 3, 4, 5, 6, 7]) H := hP
                have hD : va_D A (fmB (LB cI cC cJ cZ cQ x0 a0 a1 a2 a3 a4 a5 a6 v0 v1 t0 t1 h0 u0 u1 pa rg z_30 nx_30 cnt_30 S_30 wd_30 hv_30 hk_30 hc_30) [0, 1, 2, 3, 4, 5, 6, 7]) := hD
                have hr_30 : (seenP z9) = r_30 ∧ z9 = z_30 ∧ ((nx + 5) % 6) = nx_30 ∧ (cnt - 1) = cnt_30 ∧ S = S_30 := hr_30
                obtain ⟨rfl, rfl, rfl, rfl, rfl⟩ := hr_30
                have hP : va_P D vwCl (fmB (LB cI cC cJ cZ cQ x0 a0 a1 a2 a3 a4 a5 a6 v0 v1 t0 t1 h0 u0 u1 pa rg z9 ((nx + 5) % 6) (cnt - 1) S wd_30 hv_30 hk_30 hc_30) [0, 1, 2, 3, 4, 5, 6, 7]) H := hP
                have hD : va_D A (fmB (LB cI cC cJ cZ cQ x0 a0 a1 a2 a3 a4 a5 a6 v0 v1 t0 t1 h0 u0 u1 pa rg z9 ((nx + 5) % 6) (cnt - 1) S wd_30 hv_30 hk_30 hc_30) [0, 1, 2, 3, 4, 5, 6, 7]) := hD
                refine k_topl (y := w7) (by rw [hw7, e9]) ?_
                refine lv_lload hx hb dL_law_396 (lv_at hl 6 rfl) ?_
                refine W.lcmp hx hb dL_law_398 ?_
                refine lv_if_ne (tgt := 421) hx hb dL_law_399 (by decide) (fun c_399 => ?_) (fun c_399 => ?_)
                · exact absurd (k_cmp0.mpr rfl) c_399
                · refine lv_iload hx hb dL_law_402 (lv_at hl 5 rfl) ?_
                  refine lv_if_eq (tgt := 417) hx hb dL_law_404 (by decide) (fun c_404 => ?_) (fun c_404 => ?_)
                  · refine lv_iconst (v := 1) hx hb dL_law_417 (by decide) ?_
                    refine lv_goto (tgt := 422) hx hb dL_law_418 (by decide) ?_
                    refine lv_istore_n (lv' := [(2, .int 1), (14, .int tw), (13, .int (nI cnt)), (12, .int (nI co)), (10, .long hx9), (9, .int hb9), (7, .long w7), (6, .int (nI (x / 12))), (5, .int (nI (x % 12))), (4, .int (nI x)), (3, .int (nI i)), (1, .ref x0), (0, .ref b)]) hx hb dL_law_422 rfl hl (by decide) rfl (fun ls hl => ?_)
                    exact K _ _ _ _ _ z9 ((nx + 5) % 6) (cnt - 1) S wd_30 hv_30 hk_30 hc_30 (by omega) (by omega) (by first | exact hI | exact hIu) hP hD hS (lv_sub hl [10, 0, 11, 12] rfl)
                  · refine lv_aload_n hx hb dL_law_407 rfl (lv_at hl 11 rfl) ?_
                    refine lq_lx (B0 := (LB cI cC cJ cZ cQ x0 a0 a1 a2 a3 a4 a5 a6 v0 v1 t0 t1 h0 u0 u1 pa rg z9 ((nx + 5) % 6) (cnt - 1) S wd_30 hv_30 hk_30 hc_30)) (B1 := (fun u_33 => LB cI cC cJ cZ cQ x0 a0 a1 a2 a3 a4 a5 a6 v0 v1 t0 t1 h0 u0 u1 pa rg z9 ((nx + 5) % 6) (cnt - 1) S (fillG z9.2.2.2.2.2.2.2.1 z9.2.2.2.2.2.1) u_33.1 u_33.2.1 u_33.2.2)) (U := [0, 1, 2, 3, 4, 5, 6, 7]) (isC := [0, 1, 6, 7]) (isR := [2, 3, 4, 5]) (As := []) (rest := []) ⟨hx, hb, hml, hown, hts⟩ (kX7_digest l D H.size cI cC cJ cZ cQ x0 v0 t0 h0 u0 a0 a1 a2 a3 a4 a5 a6 z9 hv_30 hk_30 hc_30 u1 wd_30 hvz hvl hvf) (cwV 0 hts gL_law_X7_digest rfl rfl rfl (by decide +kernel) ⟨Nat.le_of_ble_eq_true rfl, Nat.le_of_ble_eq_true rfl⟩) hP hD hK hS hA hN (by decide) rfl (fun _ => rfl) (fun _ => rfl) 0 7 rfl rfl rfl rfl hl.1 rfl (Nat.le_of_ble_eq_true rfl) dL_law_408 (lf_ok (by omega) (by omega)) (fun u_33 H locs hP hD hS => ?_)
                    have hP : va_P D vwCl (fmB (LB cI cC cJ cZ cQ x0 a0 a1 a2 a3 a4 a5 a6 v0 v1 t0 t1 h0 u0 u1 pa rg z9 ((nx + 5) % 6) (cnt - 1) S (fillG z9.2.2.2.2.2.2.2.1 z9.2.2.2.2.2.1) u_33.1 u_33.2.1 u_33.2.2) [0, 1, 2, 3, 4, 5, 6, 7]) H := hP
                    have hD : va_D A (fmB (LB cI cC cJ cZ cQ x0 a0 a1 a2 a3 a4 a5 a6 v0 v1 t0 t1 h0 u0 u1 pa rg z9 ((nx + 5) % 6) (cnt - 1) S (fillG z9.2.2.2.2.2.2.2.1 z9.2.2.2.2.2.1) u_33.1 u_33.2.1 u_33.2.2) [0, 1, 2, 3, 4, 5, 6, 7]) := hD
                    refine k_topl (y := digP z9) rfl ?_
                    refine lv_lload hx hb dL_law_411 (lv_at hl 4 rfl) ?_
                    refine W.lcmp hx hb dL_law_413 ?_
                    refine lv_if_ne (tgt := 421) hx hb dL_law_414 (by decide) (fun c_414 => ?_) (fun c_414 => ?_)
                    · exact absurd (k_cmp0.mpr (by rw [hhx.resolve_left c_404, e9])) c_414
                    · refine lv_iconst (v := 1) hx hb dL_law_417 (by decide) ?_
                      refine lv_goto (tgt := 422) hx hb dL_law_418 (by decide) ?_
                      refine lv_istore_n (lv' := [(2, .int 1), (14, .int tw), (13, .int (nI cnt)), (12, .int (nI co)), (10, .long hx9), (9, .int hb9), (7, .long w7), (6, .int (nI (x / 12))), (5, .int (nI (x % 12))), (4, .int (nI x)), (3, .int (nI i)), (1, .ref x0), (0, .ref b)]) hx hb dL_law_422 rfl hl (by decide) rfl (fun ls hl => ?_)
                      exact K _ _ _ _ _ z9 ((nx + 5) % 6) (cnt - 1) S (fillG z9.2.2.2.2.2.2.2.1 z9.2.2.2.2.2.1) u_33.1 u_33.2.1 u_33.2.2 (by omega) (by omega) (by first | exact hI | exact hIu) hP hD hS (lv_sub hl [10, 0, 11, 12] rfl)
  refine lv_iload_n hx hb dL_law_306 rfl (lv_at hl 9 rfl) ?_
  refine lv_bipush (v := 7) hx hb dL_law_307 (by decide) ?_
  refine lv_irem hx hb dL_law_309 (by decide) ?_
  refine k_topi (y := nI (i % 7)) (pk_rem (a := i) (d := 7) (by omega) (by omega) (by omega)) ?_
  refine lv_bipush (v := 6) hx hb dL_law_310 (by decide) ?_
  refine lv_icmp_ne (tgt := 327) hx hb dL_law_312 (by decide) (fun c_312 => ?_) (fun c_312 => ?_)
  · have c_312 : ¬ (i % 7) = 6 := fun h => c_312 ((nI_eq (a := (i % 7)) (b := 6) (by omega) (by omega)).mpr h)
    refine W.widen (k := cells + 27) (n := slots + 162) (by omega) (by omega) ?_
    exact J327 wd hv hk hc _ _ hP hD hS _ (lv_sub hl [0, 1, 2, 3, 4, 5, 6, 7, 8, 9, 10, 11, 12] rfl)
  · have c_312 : (i % 7) = 6 := (nI_eq (a := (i % 7)) (b := 6) (by omega) (by omega)).mp c_312
    refine lv_aload_n hx hb dL_law_315 rfl (lv_at hl 11 rfl) ?_
    refine lv_iload hx hb dL_law_316 (lv_at hl 8 rfl) ?_
    refine lv_bipush (v := 7) hx hb dL_law_318 (by decide) ?_
    refine lv_idiv hx hb dL_law_320 (by decide) ?_
    refine k_topi (y := nI (x / 7)) (pk_div (a := x) (d := 7) (by omega) (by omega) (by omega)) ?_
    refine lq_o (B0 := (LB cI cC cJ cZ cQ x0 a0 a1 a2 a3 a4 a5 a6 v0 v1 t0 t1 h0 u0 u1 pa rg z nx cnt S wd hv hk hc)) (B1 := fun u9 => LB cI cC cJ cZ cQ x0 a0 a1 a2 a3 a4 a5 a6 v0 v1 t0 t1 h0 u0 u1 pa rg u9.1 u9.2.1 u9.2.2.1 u9.2.2.2.1 u9.2.2.2.2.1 u9.2.2.2.2.2.1 u9.2.2.2.2.2.2.1 u9.2.2.2.2.2.2.2) (U := [0, 1, 2, 3, 4, 5, 6, 7]) (As := [.ref x0, .int (nI (x / 7))]) (rest := []) ⟨hx, hb, hml, hown, hts⟩ (mL_refuses l hst D H.size cI cC cJ cZ cQ x0 a0 a1 a2 a3 a4 a5 a6 v0 v1 t0 t1 h0 u0 u1 pa rg z nx cnt S wd hv hk hc (x / 7) (by first | assumption | omega) (by first | assumption | omega) (by omega)) (va_cwS 2 hts gL_law_L_refuses rfl rfl rfl (by decide +kernel) ⟨Nat.le_of_ble_eq_true rfl, Nat.le_of_ble_eq_true rfl⟩) hP hD hK hS hA hN hE hO (fun _ => rfl) rfl hl.1 rfl (Nat.le_of_ble_eq_true rfl) dL_law_321 (lf_ok (by omega) (by omega)) (fun r_36 u_36 H locs hr_36 hP hD hS => ?_)
    obtain ⟨z_36, nx_36, cnt_36, S_36, wd_36, hv_36, hk_36, hc_36⟩ := u_36
    have hP : va_P D vwCl (fmB (LB cI cC cJ cZ cQ x0 a0 a1 a2 a3 a4 a5 a6 v0 v1 t0 t1 h0 u0 u1 pa rg z_36 nx_36 cnt_36 S_36 wd_36 hv_36 hk_36 hc_36) [0, 1, 2, 3, 4, 5, 6, 7]) H := hP
    have hD : va_D A (fmB (LB cI cC cJ cZ cQ x0 a0 a1 a2 a3 a4 a5 a6 v0 v1 t0 t1 h0 u0 u1 pa rg z_36 nx_36 cnt_36 S_36 wd_36 hv_36 hk_36 hc_36) [0, 1, 2, 3, 4, 5, 6, 7]) := hD
    have hr_36 : 1 = r_36 ∧ z = z_36 ∧ nx = nx_36 ∧ cnt = cnt_36 ∧ S = S_36 := hr_36
    obtain ⟨rfl, rfl, rfl, rfl, rfl⟩ := hr_36
    have hP : va_P D vwCl (fmB (LB cI cC cJ cZ cQ x0 a0 a1 a2 a3 a4 a5 a6 v0 v1 t0 t1 h0 u0 u1 pa rg z nx cnt S wd_36 hv_36 hk_36 hc_36) [0, 1, 2, 3, 4, 5, 6, 7]) H := hP
    have hD : va_D A (fmB (LB cI cC cJ cZ cQ x0 a0 a1 a2 a3 a4 a5 a6 v0 v1 t0 t1 h0 u0 u1 pa rg z nx cnt S wd_36 hv_36 hk_36 hc_36) [0, 1, 2, 3, 4, 5, 6, 7]) := hD
    refine lv_if_eq (tgt := 331) hx hb dL_law_324 (by decide) (fun h => absurd h (by decide)) (fun _ => ?_)
    exact J327 wd_36 hv_36 hk_36 hc_36 _ _ hP hD hS _ (lv_sub hl [0, 1, 2, 3, 4, 5, 6, 7, 8, 9, 10, 11, 12] rfl)
