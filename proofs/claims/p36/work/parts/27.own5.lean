/-! isWhole; laid by program (wip/p36/gen) -/
abbrev rmmL_isWhole : Room := { frames := 4, cells := 0, slots := 0, locals := 89 }
set_option maxHeartbeats 4000000 in
set_option maxRecDepth 100000 in
theorem iw_tail {p : Program} {l : Launch} {e : Env} {s s1 : State} {m : MethodId} {args : Array Value} {below : List Frame} {meth : Method} {c : Code} {A : Nat → Prop} {H : Heap} {locs : List Loc} {ls : Array Slot} {D : va_G} {cI cC cJ cZ cQ : ClassId} {x0 a0 a1 a2 a3 a4 a5 a6 v0 v1 t0 t1 h0 u0 u1 : Nat} {pa : Nat → Nat} {rg : Nat → Option Nat} {z : StV} {nx cnt : Nat} {S : Nat → StV} {wd : Nat → Int64} {hv hk hc : Int32} (hx : p.tables.exec = Jvm.exec) (hb : c.code = cL_isWhole) (hr : meth.sig.returnType = some .boolean) (hts : ∀ w ∈ wsL_isWhole, w.before args s1 = true) (hown : s1.vm.findClass RL = some m.cls) (hlocks : meth.locks = false) (hml : c.maxLocals = 9) (hs1 : s1 = s.setDrawn s.drawn) (hd0 : s.drawn.sameBut s.drawn lw_cs)
    (hP : va_P D vwCl (fmB (LB cI cC cJ cZ cQ x0 a0 a1 a2 a3 a4 a5 a6 v0 v1 t0 t1 h0 u0 u1 pa rg z nx cnt S wd hv hk hc) [0, 1, 2, 3, 4, 5, 6, 7]) H) (hD : va_D A (fmB (LB cI cC cJ cZ cQ x0 a0 a1 a2 a3 a4 a5 a6 v0 v1 t0 t1 h0 u0 u1 pa rg z nx cnt S wd hv hk hc) [0, 1, 2, 3, 4, 5, 6, 7])) (hK : va_K D vwCl (kT cI cC cJ cZ cQ) s1) (hA : ∀ q, s1.heap.size ≤ q → A q) (hS : va_S A s1.heap H locs) (hN : kN s1) (hE : kE A s1 s1.heap) (hO : kO s1) (hl : lv_has ls 9 [(0, .ref x0), (2, .int (errS z.2.2.2.2.2.2.2.2.1 z.2.2.2.2.2.2.2.2.2.2 z.2.2.2.2.2.2.1))]) (hlz : z.2.2.2.2.2.2.1 ≤ 8) (he : (errS z.2.2.2.2.2.2.2.2.1 z.2.2.2.2.2.2.2.2.2.2 z.2.2.2.2.2.2.1).toInt.natAbs ≤ 393216 * z.2.2.2.2.2.2.1) : W p l e rmmL_isWhole s1 m args below meth c H locs 0 0 (MQD lw_cs below (oQi D (fun (r9 : Int32) (u9 : OS) => 1 = r9 ∧ z = u9.1 ∧ nx = u9.2.1 ∧ cnt = u9.2.2.1 ∧ S = u9.2.2.2.1) (fun (u9 : OS) => fmB (LB cI cC cJ cZ cQ x0 a0 a1 a2 a3 a4 a5 a6 v0 v1 t0 t1 h0 u0 u1 pa rg u9.1 u9.2.1 u9.2.2.1 u9.2.2.2.1 u9.2.2.2.2.1 u9.2.2.2.2.2.1 u9.2.2.2.2.2.2.1 u9.2.2.2.2.2.2.2) [0, 1, 2, 3, 4, 5, 6, 7]) A) args s 0 0 A) (F0 m 344 ls [.ref x0]) := by
  subst hs1
  have he2 : (errS z.2.2.2.2.2.2.2.2.1 z.2.2.2.2.2.2.2.2.2.2 z.2.2.2.2.2.2.1).toInt.natAbs ≤ 2 ^ 22 := by omega
  have he0 : z.2.2.2.2.2.2.1 = 0 → (errS z.2.2.2.2.2.2.2.2.1 z.2.2.2.2.2.2.2.2.2.2 z.2.2.2.2.2.2.1) = 0 := fun h => by rw [h]; rfl
  have hts0 := hts
  refine lq_d (B0 := (LB cI cC cJ cZ cQ x0 a0 a1 a2 a3 a4 a5 a6 v0 v1 t0 t1 h0 u0 u1 pa rg z nx cnt S wd hv hk hc)) (B1 := (LB cI cC cJ cZ cQ x0 a0 a1 a2 a3 a4 a5 a6 v0 v1 t0 t1 h0 u0 u1 pa rg z nx cnt S wd hv hk hc)) (U := [0, 1, 2, 3, 4, 5, 6, 7]) (isC := [0, 1]) (isR := [2, 3, 4, 5, 6, 7]) (As := []) (rest := []) hd0 ⟨hx, hb, hml, hown, hts⟩ (kX7_meanError l D H.size cI cC cJ cZ cQ x0 v0 t0 h0 u0 a0 a1 a2 a3 a4 a5 a6 z hlz) (cwV 0 hts gL_isWhole_X7_meanError rfl rfl rfl (by decide +kernel) ⟨Nat.le_of_ble_eq_true rfl, Nat.le_of_ble_eq_true rfl⟩) hP hD hK hS hA hN (by decide) rfl rfl rfl 0 7 rfl rfl rfl rfl hl.1 rfl (Nat.le_of_ble_eq_true rfl) dL_isWhole_344 ⟨Nat.le_of_ble_eq_true rfl, Nat.le_of_ble_eq_true rfl⟩ (fun r_d1 H locs hr_d1 hP hD hS d1 hd1 => ?_)
  have hts_d1 : ∀ w ∈ wsL_isWhole, w.before args (s.setDrawn d1) = true := dr_words hts0 d1
  have hown_d1 : (s.setDrawn d1).vm.findClass RL = some m.cls := hown
  obtain ⟨hK_d1, hN_d1, hE_d1, hO_d1⟩ : va_K D vwCl (kT cI cC cJ cZ cQ) (s.setDrawn d1) ∧ kN (s.setDrawn d1) ∧ kE A (s.setDrawn d1) (s.setDrawn d1).heap ∧ kO (s.setDrawn d1) := ko_drawn d1 hK hN hE hO
  refine lv_aload_n hx hb dL_isWhole_347 rfl (lv_at hl 0 rfl) ?_
  refine lq_v (B0 := (LB cI cC cJ cZ cQ x0 a0 a1 a2 a3 a4 a5 a6 v0 v1 t0 t1 h0 u0 u1 pa rg z nx cnt S wd hv hk hc)) (B1 := (LB cI cC cJ cZ cQ x0 a0 a1 a2 a3 a4 a5 a6 v0 v1 t0 t1 h0 u0 u1 pa rg z nx cnt S wd hv hk hc)) (U := [0, 1, 2, 3, 4, 5, 6, 7]) (isC := [0, 1]) (isR := [2, 3, 4, 5, 6, 7]) (As := []) (rest := [.double r_d1]) ⟨hx, hb, hml, hown_d1, hts_d1⟩ (kX7_logged l D H.size cI cC cJ cZ cQ x0 v0 t0 h0 u0 a0 a1 a2 a3 a4 a5 a6 z) (cwV 0 hts_d1 gL_isWhole_X7_logged rfl rfl rfl (by decide +kernel) ⟨Nat.le_of_ble_eq_true rfl, Nat.le_of_ble_eq_true rfl⟩) hP hD hK_d1 hS hA hN_d1 (by decide) rfl rfl rfl 0 7 rfl rfl rfl rfl hl.1 rfl (Nat.le_of_ble_eq_true rfl) dL_isWhole_348 ⟨Nat.le_of_ble_eq_true rfl, Nat.le_of_ble_eq_true rfl⟩ (fun H locs hP hD hS => ?_)
  refine lv_i2d hx hb dL_isWhole_351 ?_
  refine lv_dmul_any hd1 lw_bits hx hb dL_isWhole_352 (fun p_d2 d2 hp_d2 hd2 => ?_)
  have hts_d2 : ∀ w ∈ wsL_isWhole, w.before args (s.setDrawn d2) = true := dr_words hts0 d2
  have hown_d2 : (s.setDrawn d2).vm.findClass RL = some m.cls := hown
  obtain ⟨hK_d2, hN_d2, hE_d2, hO_d2⟩ : va_K D vwCl (kT cI cC cJ cZ cQ) (s.setDrawn d2) ∧ kN (s.setDrawn d2) ∧ kE A (s.setDrawn d2) (s.setDrawn d2).heap ∧ kO (s.setDrawn d2) := ko_drawn d2 hK hN hE hO
  refine lv_iload_n hx hb dL_isWhole_353 rfl (lv_at hl 1 rfl) ?_
  refine lv_i2d hx hb dL_isWhole_354 ?_
  refine lv_ldc2d hx hb hown_d2 (hts_d2 (Cond.constantDouble RL 115 (4602678819172646912)) (List.mem_of_getElem? (i := 2) rfl)) dL_isWhole_355 ?_
  refine lv_dadd_any hd2 lw_bits hx hb dL_isWhole_358 (fun q_d3 d3 hq_d3 hd3 => ?_)
  have hc_d3 : FP.dcmp p_d2 q_d3 = some .lt := (fl_all hlz he0 he2 hr_d1 hp_d2).1 q_d3 hq_d3
  refine lv_dcmp hx hb dL_isWhole_359 ?_
  refine lv_if_ge (tgt := 387) hx hb dL_isWhole_360 (by decide) (fun h9 => absurd h9 (by rw [hc_d3]; decide)) (fun _ => ?_)
  have hts_d3 : ∀ w ∈ wsL_isWhole, w.before args (s.setDrawn d3) = true := dr_words hts0 d3
  have hown_d3 : (s.setDrawn d3).vm.findClass RL = some m.cls := hown
  obtain ⟨hK_d3, hN_d3, hE_d3, hO_d3⟩ : va_K D vwCl (kT cI cC cJ cZ cQ) (s.setDrawn d3) ∧ kN (s.setDrawn d3) ∧ kE A (s.setDrawn d3) (s.setDrawn d3).heap ∧ kO (s.setDrawn d3) := ko_drawn d3 hK hN hE hO
  refine lv_aload_n hx hb dL_isWhole_363 rfl (lv_at hl 0 rfl) ?_
  refine lq_d (B0 := (LB cI cC cJ cZ cQ x0 a0 a1 a2 a3 a4 a5 a6 v0 v1 t0 t1 h0 u0 u1 pa rg z nx cnt S wd hv hk hc)) (B1 := (LB cI cC cJ cZ cQ x0 a0 a1 a2 a3 a4 a5 a6 v0 v1 t0 t1 h0 u0 u1 pa rg z nx cnt S wd hv hk hc)) (U := [0, 1, 2, 3, 4, 5, 6, 7]) (isC := [0, 1]) (isR := [2, 3, 4, 5, 6, 7]) (As := []) (rest := []) hd3 ⟨hx, hb, hml, hown_d3, hts_d3⟩ (kX7_meanError l D H.size cI cC cJ cZ cQ x0 v0 t0 h0 u0 a0 a1 a2 a3 a4 a5 a6 z hlz) (cwV 0 hts_d3 gL_isWhole_X7_meanError rfl rfl rfl (by decide +kernel) ⟨Nat.le_of_ble_eq_true rfl, Nat.le_of_ble_eq_true rfl⟩) hP hD hK_d3 hS hA hN_d3 (by decide) rfl rfl rfl 0 7 rfl rfl rfl rfl hl.1 rfl (Nat.le_of_ble_eq_true rfl) dL_isWhole_364 ⟨Nat.le_of_ble_eq_true rfl, Nat.le_of_ble_eq_true rfl⟩ (fun r_d4 H locs hr_d4 hP hD hS d4 hd4 => ?_)
  have hts_d4 : ∀ w ∈ wsL_isWhole, w.before args (s.setDrawn d4) = true := dr_words hts0 d4
  have hown_d4 : (s.setDrawn d4).vm.findClass RL = some m.cls := hown
  obtain ⟨hK_d4, hN_d4, hE_d4, hO_d4⟩ : va_K D vwCl (kT cI cC cJ cZ cQ) (s.setDrawn d4) ∧ kN (s.setDrawn d4) ∧ kE A (s.setDrawn d4) (s.setDrawn d4).heap ∧ kO (s.setDrawn d4) := ko_drawn d4 hK hN hE hO
  refine lv_aload_n hx hb dL_isWhole_367 rfl (lv_at hl 0 rfl) ?_
  refine lq_v (B0 := (LB cI cC cJ cZ cQ x0 a0 a1 a2 a3 a4 a5 a6 v0 v1 t0 t1 h0 u0 u1 pa rg z nx cnt S wd hv hk hc)) (B1 := (LB cI cC cJ cZ cQ x0 a0 a1 a2 a3 a4 a5 a6 v0 v1 t0 t1 h0 u0 u1 pa rg z nx cnt S wd hv hk hc)) (U := [0, 1, 2, 3, 4, 5, 6, 7]) (isC := [0, 1]) (isR := [2, 3, 4, 5, 6, 7]) (As := []) (rest := [.double r_d4]) ⟨hx, hb, hml, hown_d4, hts_d4⟩ (kX7_logged l D H.size cI cC cJ cZ cQ x0 v0 t0 h0 u0 a0 a1 a2 a3 a4 a5 a6 z) (cwV 0 hts_d4 gL_isWhole_X7_logged rfl rfl rfl (by decide +kernel) ⟨Nat.le_of_ble_eq_true rfl, Nat.le_of_ble_eq_true rfl⟩) hP hD hK_d4 hS hA hN_d4 (by decide) rfl rfl rfl 0 7 rfl rfl rfl rfl hl.1 rfl (Nat.le_of_ble_eq_true rfl) dL_isWhole_368 ⟨Nat.le_of_ble_eq_true rfl, Nat.le_of_ble_eq_true rfl⟩ (fun H locs hP hD hS => ?_)
  refine lv_i2d hx hb dL_isWhole_371 ?_
  refine lv_dmul_any hd4 lw_bits hx hb dL_isWhole_372 (fun p_d5 d5 hp_d5 hd5 => ?_)
  have hts_d5 : ∀ w ∈ wsL_isWhole, w.before args (s.setDrawn d5) = true := dr_words hts0 d5
  have hown_d5 : (s.setDrawn d5).vm.findClass RL = some m.cls := hown
  obtain ⟨hK_d5, hN_d5, hE_d5, hO_d5⟩ : va_K D vwCl (kT cI cC cJ cZ cQ) (s.setDrawn d5) ∧ kN (s.setDrawn d5) ∧ kE A (s.setDrawn d5) (s.setDrawn d5).heap ∧ kO (s.setDrawn d5) := ko_drawn d5 hK hN hE hO
  refine lv_iload_n hx hb dL_isWhole_373 rfl (lv_at hl 1 rfl) ?_
  refine lv_i2d hx hb dL_isWhole_374 ?_
  refine lv_ldc2d hx hb hown_d5 (hts_d5 (Cond.constantDouble RL 115 (4602678819172646912)) (List.mem_of_getElem? (i := 2) rfl)) dL_isWhole_375 ?_
  refine lv_dsub_any hd5 lw_bits hx hb dL_isWhole_378 (fun q_d6 d6 hq_d6 hd6 => ?_)
  have hc_d6 : FP.dcmp p_d5 q_d6 = some .gt := (fl_all hlz he0 he2 hr_d4 hp_d5).2 q_d6 hq_d6
  refine lv_dcmp hx hb dL_isWhole_379 ?_
  refine lv_if_le (tgt := 387) hx hb dL_isWhole_380 (by decide) (fun h9 => absurd h9 (by rw [hc_d6]; decide)) (fun _ => ?_)
  have hts_d6 : ∀ w ∈ wsL_isWhole, w.before args (s.setDrawn d6) = true := dr_words hts0 d6
  have hown_d6 : (s.setDrawn d6).vm.findClass RL = some m.cls := hown
  obtain ⟨hK_d6, hN_d6, hE_d6, hO_d6⟩ : va_K D vwCl (kT cI cC cJ cZ cQ) (s.setDrawn d6) ∧ kN (s.setDrawn d6) ∧ kE A (s.setDrawn d6) (s.setDrawn d6).heap ∧ kO (s.setDrawn d6) := ko_drawn d6 hK hN hE hO
  refine lv_iconst (v := 1) hx hb dL_isWhole_383 (by decide) ?_
  refine lv_goto (tgt := 388) hx hb dL_isWhole_384 (by decide) ?_
  refine W.endD hd6 ?_
  exact kr_oz (u := (z, nx, cnt, S, wd, hv, hk, hc)) (v := 1) hx hb hr hlocks rfl hP hD hS ⟨rfl, rfl, rfl, rfl, rfl⟩ dL_isWhole_388
set_option maxHeartbeats 4000000 in
set_option maxRecDepth 100000 in
theorem mL_isWhole (l : Launch) (hst : l.stackTraces = false) (D : va_G) (sz : Nat) (cI : ClassId) (cC : ClassId) (cJ : ClassId) (cZ : ClassId) (cQ : ClassId) (x0 : Nat) (a0 : Nat) (a1 : Nat) (a2 : Nat) (a3 : Nat) (a4 : Nat) (a5 : Nat) (a6 : Nat) (v0 : Nat) (v1 : Nat) (t0 : Nat) (t1 : Nat) (h0 : Nat) (u0 : Nat) (u1 : Nat) (pa : Nat → Nat) (rg : Nat → Option Nat) (z : StV) (nx : Nat) (cnt : Nat) (S : Nat → StV) (wd : Nat → Int64) (hv : Int32) (hk : Int32) (hc : Int32) (hI : oI z nx cnt S) (hrg : rgOK rg pa) : MetD lw_cs l yL_isWhole wsL_isWhole rmmL_isWhole (va_Pc [.ref x0] (oPre D sz (fmB (LB cI cC cJ cZ cQ x0 a0 a1 a2 a3 a4 a5 a6 v0 v1 t0 t1 h0 u0 u1 pa rg z nx cnt S wd hv hk hc) [0, 1, 2, 3, 4, 5, 6, 7]) (kT cI cC cJ cZ cQ))) (oQi D (fun (r9 : Int32) (u9 : OS) => 1 = r9 ∧ z = u9.1 ∧ nx = u9.2.1 ∧ cnt = u9.2.2.1 ∧ S = u9.2.2.2.1) (fun (u9 : OS) => fmB (LB cI cC cJ cZ cQ x0 a0 a1 a2 a3 a4 a5 a6 v0 v1 t0 t1 h0 u0 u1 pa rg u9.1 u9.2.1 u9.2.2.1 u9.2.2.2.1 u9.2.2.2.2.1 u9.2.2.2.2.2.1 u9.2.2.2.2.2.2.1 u9.2.2.2.2.2.2.2) [0, 1, 2, 3, 4, 5, 6, 7]) (va_A (fmB (LB cI cC cJ cZ cQ x0 a0 a1 a2 a3 a4 a5 a6 v0 v1 t0 t1 h0 u0 u1 pa rg z nx cnt S wd hv hk hc) [0, 1, 2, 3, 4, 5, 6, 7]) sz)) 0 0 (va_A (fmB (LB cI cC cJ cZ cQ x0 a0 a1 a2 a3 a4 a5 a6 v0 v1 t0 t1 h0 u0 u1 pa rg z nx cnt S wd hv hk hc) [0, 1, 2, 3, 4, 5, 6, 7]) sz) := by
  refine k_metOD (Qf := oQi D (fun (r9 : Int32) (u9 : OS) => 1 = r9 ∧ z = u9.1 ∧ nx = u9.2.1 ∧ cnt = u9.2.2.1 ∧ S = u9.2.2.2.1) (fun (u9 : OS) => fmB (LB cI cC cJ cZ cQ x0 a0 a1 a2 a3 a4 a5 a6 v0 v1 t0 t1 h0 u0 u1 pa rg u9.1 u9.2.1 u9.2.2.1 u9.2.2.2.1 u9.2.2.2.2.1 u9.2.2.2.2.2.1 u9.2.2.2.2.2.2.1 u9.2.2.2.2.2.2.2) [0, 1, 2, 3, 4, 5, 6, 7])) (cc := cL_isWhole) (maxL := 9) (ret := (some .boolean)) (own := RL) (by decide) rfl (Nat.le_of_ble_eq_true rfl) rfl ?_
  intro p e s s1 m args below meth c ls A H locs hx hb hr hts hown hlocks hml hsz hP hK hD hA hS hN hE hO hs1 hd0 hl
  have hl : lv_has ls 9 [(0, .ref x0)] := hl
  obtain ⟨hw1, hwz, hlz⟩ := zI_b hI.1
  obtain ⟨hnx, hcnt, -⟩ := hI.2
  have hff := zI_f hI.1
  have hhf := zI_hf hI.1
  have hv0 := hI.1.1.1
  have hr0 := hI.1.1.2.1
  have hl0 := hI.1.1.2.2.1
  have ho0 := hI.1.2.1
  have hl9 := hI.1.2.2
  have hlm := lm_facts z.2.2.2.2.2.2.2.1 z.2.2.2.2.2.1
  have hsn := sumN_le (f := z.2.2.2.2.2.2.2.1) z.2.2.2.2.2.1 (zI_wN hI.1)
  have hp2 := p12 hwz
  have hls := (least_eq (zI_wN hI.1))
  have hcs := (sums_eq (zI_wN hI.1))
  refine lv_iconst (v := 0) hx hb dL_isWhole_0 (by decide) ?_
  refine lv_istore_n (lv' := [(1, .int 0), (0, .ref x0)]) hx hb dL_isWhole_1 rfl hl (by decide) rfl (fun ls hl => ?_)
  refine lv_iconst (v := 0) hx hb dL_isWhole_2 (by decide) ?_
  refine lv_istore_n (lv' := [(2, .int 0), (1, .int 0), (0, .ref x0)]) hx hb dL_isWhole_3 rfl hl (by decide) rfl (fun ls hl => ?_)
  refine lv_aload_n hx hb dL_isWhole_4 rfl (lv_at hl 2 rfl) ?_
  refine lq_v (B0 := (LB cI cC cJ cZ cQ x0 a0 a1 a2 a3 a4 a5 a6 v0 v1 t0 t1 h0 u0 u1 pa rg z nx cnt S wd hv hk hc)) (B1 := (LB cI cC cJ cZ cQ x0 a0 a1 a2 a3 a4 a5 a6 v0 v1 t0 t1 h0 u0 u1 pa rg z nx cnt S wd hv hk hc)) (U := [0, 1, 2, 3, 4, 5, 6, 7]) (isC := [0, 1]) (isR := [2, 3, 4, 5, 6, 7]) (As := []) (rest := []) ⟨hx, hb, hml, hown, hts⟩ (kX7_weights l D H.size cI cC cJ cZ cQ x0 v0 t0 h0 u0 a0 a1 a2 a3 a4 a5 a6 z) (cwV 0 hts gL_isWhole_X7_weights rfl rfl rfl (by decide +kernel) ⟨Nat.le_of_ble_eq_true rfl, Nat.le_of_ble_eq_true rfl⟩) hP hD hK hS hA hN (by decide) rfl rfl rfl 0 7 rfl rfl rfl rfl hl.1 rfl (Nat.le_of_ble_eq_true rfl) dL_isWhole_5 ⟨Nat.le_of_ble_eq_true rfl, Nat.le_of_ble_eq_true rfl⟩ (fun H locs hP hD hS => ?_)
  refine lv_istore_n (lv' := [(3, .int (nI z.2.2.2.2.2.1)), (2, .int 0), (1, .int 0), (0, .ref x0)]) hx hb dL_isWhole_8 rfl hl (by decide) rfl (fun ls hl => ?_)
  refine lv_aload_n hx hb dL_isWhole_9 rfl (lv_at hl 3 rfl) ?_
  refine lq_v (B0 := (LB cI cC cJ cZ cQ x0 a0 a1 a2 a3 a4 a5 a6 v0 v1 t0 t1 h0 u0 u1 pa rg z nx cnt S wd hv hk hc)) (B1 := (LB cI cC cJ cZ cQ x0 a0 a1 a2 a3 a4 a5 a6 v0 v1 t0 t1 h0 u0 u1 pa rg z nx cnt S (fillG z.2.2.2.2.2.2.2.1 z.2.2.2.2.2.1) hv hk hc)) (U := [0, 1, 2, 3, 4, 5, 6, 7]) (isC := [0, 1, 7]) (isR := [2, 3, 4, 5, 6]) (As := []) (rest := []) ⟨hx, hb, hml, hown, hts⟩ (kX7_leastMissing l D H.size cI cC cJ cZ cQ x0 v0 t0 h0 u0 a0 a1 a2 a3 a4 a5 a6 z u1 wd (by first | assumption | omega) (by first | assumption | omega)) (cwV 0 hts gL_isWhole_X7_leastMissing rfl rfl rfl (by decide +kernel) ⟨Nat.le_of_ble_eq_true rfl, Nat.le_of_ble_eq_true rfl⟩) hP hD hK hS hA hN (by decide) rfl rfl rfl 0 7 rfl rfl rfl rfl hl.1 rfl (Nat.le_of_ble_eq_true rfl) dL_isWhole_10 ⟨Nat.le_of_ble_eq_true rfl, Nat.le_of_ble_eq_true rfl⟩ (fun H locs hP hD hS => ?_)
  refine k_topi (y := nI (lmS (sumB z.2.2.2.2.2.2.2.1 z.2.2.2.2.2.1) 4095 1)) (congrArg nI hls) ?_
  refine lv_istore (lv' := [(4, .int (nI (lmS (sumB z.2.2.2.2.2.2.2.1 z.2.2.2.2.2.1) 4095 1))), (3, .int (nI z.2.2.2.2.2.1)), (2, .int 0), (1, .int 0), (0, .ref x0)]) hx hb dL_isWhole_13 hl (by decide) rfl (fun ls hl => ?_)
  refine lv_iload_n hx hb dL_isWhole_15 rfl (lv_at hl 1 rfl) ?_
  refine lv_if_le (tgt := 61) hx hb dL_isWhole_16 (by decide) (fun c_16 => ?_) (fun c_16 => ?_)
  · have c_16 : z.2.2.2.2.2.1 ≤ 0 := (nI_leI (a := z.2.2.2.2.2.1) (b := 0) (by omega) (by omega)).mp c_16
    omega
  · have c_16 : ¬ z.2.2.2.2.2.1 ≤ 0 := fun h => c_16 ((nI_leI (a := z.2.2.2.2.2.1) (b := 0) (by omega) (by omega)).mpr h)
    refine lv_iload_n hx hb dL_isWhole_19 rfl (lv_at hl 1 rfl) ?_
    refine lv_bipush (v := 13) hx hb dL_isWhole_20 (by decide) ?_
    refine lv_icmp_ge (tgt := 61) hx hb dL_isWhole_22 (by decide) (fun c_22 => ?_) (fun c_22 => ?_)
    · have c_22 : 13 ≤ z.2.2.2.2.2.1 := (nI_leI (a := 13) (b := z.2.2.2.2.2.1) (by omega) (by omega)).mp c_22
      omega
    · have c_22 : ¬ 13 ≤ z.2.2.2.2.2.1 := fun h => c_22 ((nI_leI (a := 13) (b := z.2.2.2.2.2.1) (by omega) (by omega)).mpr h)
      refine lv_aload_n hx hb dL_isWhole_25 rfl (lv_at hl 4 rfl) ?_
      refine lq_v (B0 := (LB cI cC cJ cZ cQ x0 a0 a1 a2 a3 a4 a5 a6 v0 v1 t0 t1 h0 u0 u1 pa rg z nx cnt S (fillG z.2.2.2.2.2.2.2.1 z.2.2.2.2.2.1) hv hk hc)) (B1 := (LB cI cC cJ cZ cQ x0 a0 a1 a2 a3 a4 a5 a6 v0 v1 t0 t1 h0 u0 u1 pa rg z nx cnt S (fillG z.2.2.2.2.2.2.2.1 z.2.2.2.2.2.1) hv hk hc)) (U := [0, 1, 2, 3, 4, 5, 6, 7]) (isC := [0, 1]) (isR := [2, 3, 4, 5, 6, 7]) (As := []) (rest := []) ⟨hx, hb, hml, hown, hts⟩ (kX7_voltage l D H.size cI cC cJ cZ cQ x0 v0 t0 h0 u0 a0 a1 a2 a3 a4 a5 a6 z) (cwV 0 hts gL_isWhole_X7_voltage rfl rfl rfl (by decide +kernel) ⟨Nat.le_of_ble_eq_true rfl, Nat.le_of_ble_eq_true rfl⟩) hP hD hK hS hA hN (by decide) rfl rfl rfl 0 7 rfl rfl rfl rfl hl.1 rfl (Nat.le_of_ble_eq_true rfl) dL_isWhole_26 ⟨Nat.le_of_ble_eq_true rfl, Nat.le_of_ble_eq_true rfl⟩ (fun H locs hP hD hS => ?_)
      refine lv_if_lt (tgt := 61) hx hb dL_isWhole_29 (by decide) (fun c_29 => ?_) (fun c_29 => ?_)
      · exact absurd c_29 (c_lt (b := 0) (by decide) hv0.1)
      · refine lv_aload_n hx hb dL_isWhole_32 rfl (lv_at hl 4 rfl) ?_
        refine lq_v (B0 := (LB cI cC cJ cZ cQ x0 a0 a1 a2 a3 a4 a5 a6 v0 v1 t0 t1 h0 u0 u1 pa rg z nx cnt S (fillG z.2.2.2.2.2.2.2.1 z.2.2.2.2.2.1) hv hk hc)) (B1 := (LB cI cC cJ cZ cQ x0 a0 a1 a2 a3 a4 a5 a6 v0 v1 t0 t1 h0 u0 u1 pa rg z nx cnt S (fillG z.2.2.2.2.2.2.2.1 z.2.2.2.2.2.1) hv hk hc)) (U := [0, 1, 2, 3, 4, 5, 6, 7]) (isC := [0, 1]) (isR := [2, 3, 4, 5, 6, 7]) (As := []) (rest := []) ⟨hx, hb, hml, hown, hts⟩ (kX7_voltage l D H.size cI cC cJ cZ cQ x0 v0 t0 h0 u0 a0 a1 a2 a3 a4 a5 a6 z) (cwV 0 hts gL_isWhole_X7_voltage rfl rfl rfl (by decide +kernel) ⟨Nat.le_of_ble_eq_true rfl, Nat.le_of_ble_eq_true rfl⟩) hP hD hK hS hA hN (by decide) rfl rfl rfl 0 7 rfl rfl rfl rfl hl.1 rfl (Nat.le_of_ble_eq_true rfl) dL_isWhole_33 ⟨Nat.le_of_ble_eq_true rfl, Nat.le_of_ble_eq_true rfl⟩ (fun H locs hP hD hS => ?_)
        refine lv_ldc hx hb hown (hts (Cond.constant RL 107 (65536)) (List.mem_of_getElem? (i := 1) rfl)) dL_isWhole_36 ?_
        refine lv_icmp_ge (tgt := 61) hx hb dL_isWhole_38 (by decide) (fun c_38 => ?_) (fun c_38 => ?_)
        · exact absurd c_38 (c_nge (b := 65536) (by decide) (by omega))
        · refine lv_aload_n hx hb dL_isWhole_41 rfl (lv_at hl 4 rfl) ?_
          refine lq_v (B0 := (LB cI cC cJ cZ cQ x0 a0 a1 a2 a3 a4 a5 a6 v0 v1 t0 t1 h0 u0 u1 pa rg z nx cnt S (fillG z.2.2.2.2.2.2.2.1 z.2.2.2.2.2.1) hv hk hc)) (B1 := (LB cI cC cJ cZ cQ x0 a0 a1 a2 a3 a4 a5 a6 v0 v1 t0 t1 h0 u0 u1 pa rg z nx cnt S (fillG z.2.2.2.2.2.2.2.1 z.2.2.2.2.2.1) hv hk hc)) (U := [0, 1, 2, 3, 4, 5, 6, 7]) (isC := [0, 1]) (isR := [2, 3, 4, 5, 6, 7]) (As := []) (rest := []) ⟨hx, hb, hml, hown, hts⟩ (kX7_logged l D H.size cI cC cJ cZ cQ x0 v0 t0 h0 u0 a0 a1 a2 a3 a4 a5 a6 z) (cwV 0 hts gL_isWhole_X7_logged rfl rfl rfl (by decide +kernel) ⟨Nat.le_of_ble_eq_true rfl, Nat.le_of_ble_eq_true rfl⟩) hP hD hK hS hA hN (by decide) rfl rfl rfl 0 7 rfl rfl rfl rfl hl.1 rfl (Nat.le_of_ble_eq_true rfl) dL_isWhole_42 ⟨Nat.le_of_ble_eq_true rfl, Nat.le_of_ble_eq_true rfl⟩ (fun H locs hP hD hS => ?_)
          refine lv_if_lt (tgt := 61) hx hb dL_isWhole_45 (by decide) (fun c_45 => ?_) (fun c_45 => ?_)
          · have c_45 : z.2.2.2.2.2.2.1 < 0 := (nI_ltI (a := z.2.2.2.2.2.2.1) (b := 0) (by omega) (by omega)).mp c_45
            omega
          · have c_45 : ¬ z.2.2.2.2.2.2.1 < 0 := fun h => c_45 ((nI_ltI (a := z.2.2.2.2.2.2.1) (b := 0) (by omega) (by omega)).mpr h)
            refine lv_aload_n hx hb dL_isWhole_48 rfl (lv_at hl 4 rfl) ?_
            refine lq_v (B0 := (LB cI cC cJ cZ cQ x0 a0 a1 a2 a3 a4 a5 a6 v0 v1 t0 t1 h0 u0 u1 pa rg z nx cnt S (fillG z.2.2.2.2.2.2.2.1 z.2.2.2.2.2.1) hv hk hc)) (B1 := (LB cI cC cJ cZ cQ x0 a0 a1 a2 a3 a4 a5 a6 v0 v1 t0 t1 h0 u0 u1 pa rg z nx cnt S (fillG z.2.2.2.2.2.2.2.1 z.2.2.2.2.2.1) hv hk hc)) (U := [0, 1, 2, 3, 4, 5, 6, 7]) (isC := [0, 1]) (isR := [2, 3, 4, 5, 6, 7]) (As := []) (rest := []) ⟨hx, hb, hml, hown, hts⟩ (kX7_logged l D H.size cI cC cJ cZ cQ x0 v0 t0 h0 u0 a0 a1 a2 a3 a4 a5 a6 z) (cwV 0 hts gL_isWhole_X7_logged rfl rfl rfl (by decide +kernel) ⟨Nat.le_of_ble_eq_true rfl, Nat.le_of_ble_eq_true rfl⟩) hP hD hK hS hA hN (by decide) rfl rfl rfl 0 7 rfl rfl rfl rfl hl.1 rfl (Nat.le_of_ble_eq_true rfl) dL_isWhole_49 ⟨Nat.le_of_ble_eq_true rfl, Nat.le_of_ble_eq_true rfl⟩ (fun H locs hP hD hS => ?_)
            refine lv_bipush (v := 9) hx hb dL_isWhole_52 (by decide) ?_
            refine lv_icmp_ge (tgt := 61) hx hb dL_isWhole_54 (by decide) (fun c_54 => ?_) (fun c_54 => ?_)
            · have c_54 : 9 ≤ z.2.2.2.2.2.2.1 := (nI_leI (a := 9) (b := z.2.2.2.2.2.2.1) (by omega) (by omega)).mp c_54
              omega
            · have c_54 : ¬ 9 ≤ z.2.2.2.2.2.2.1 := fun h => c_54 ((nI_leI (a := 9) (b := z.2.2.2.2.2.2.1) (by omega) (by omega)).mpr h)
              refine lv_iconst (v := 1) hx hb dL_isWhole_57 (by decide) ?_
              refine lv_goto (tgt := 62) hx hb dL_isWhole_58 (by decide) ?_
              refine lv_istore (lv' := [(5, .int 1), (4, .int (nI (lmS (sumB z.2.2.2.2.2.2.2.1 z.2.2.2.2.2.1) 4095 1))), (3, .int (nI z.2.2.2.2.2.1)), (2, .int 0), (1, .int 0), (0, .ref x0)]) hx hb dL_isWhole_62 hl (by decide) rfl (fun ls hl => ?_)
              refine lv_iconst (v := 0) hx hb dL_isWhole_64 (by decide) ?_
              refine lv_istore (lv' := [(6, .int 0), (5, .int 1), (4, .int (nI (lmS (sumB z.2.2.2.2.2.2.2.1 z.2.2.2.2.2.1) 4095 1))), (3, .int (nI z.2.2.2.2.2.1)), (2, .int 0), (1, .int 0), (0, .ref x0)]) hx hb dL_isWhole_65 hl (by decide) rfl (fun ls hl => ?_)
              have J67 : ∀ (fuel : Nat) (k : Nat) (hj0 : k ≤ z.2.2.2.2.2.1) (hm : z.2.2.2.2.2.1 - k < fuel) (H : Heap) (locs : List Loc) (hP : va_P D vwCl (fmB (LB cI cC cJ cZ cQ x0 a0 a1 a2 a3 a4 a5 a6 v0 v1 t0 t1 h0 u0 u1 pa rg z nx cnt S (fillG z.2.2.2.2.2.2.2.1 z.2.2.2.2.2.1) hv hk hc) [0, 1, 2, 3, 4, 5, 6, 7]) H) (hD : va_D A (fmB (LB cI cC cJ cZ cQ x0 a0 a1 a2 a3 a4 a5 a6 v0 v1 t0 t1 h0 u0 u1 pa rg z nx cnt S (fillG z.2.2.2.2.2.2.2.1 z.2.2.2.2.2.1) hv hk hc) [0, 1, 2, 3, 4, 5, 6, 7])) (hS : va_S A s1.heap H locs) (ls : Array Slot) (hl : lv_has ls 9 [(6, .int (nI k)), (5, .int 1), (4, .int (nI (lmS (sumB z.2.2.2.2.2.2.2.1 z.2.2.2.2.2.1) 4095 1))), (3, .int (nI z.2.2.2.2.2.1)), (2, .int 0), (1, .int (nI (sumN z.2.2.2.2.2.2.2.1 k))), (0, .ref x0)]), W p l e rmmL_isWhole s1 m args below meth c H locs 0 0 (MQD lw_cs below (oQi D (fun (r9 : Int32) (u9 : OS) => 1 = r9 ∧ z = u9.1 ∧ nx = u9.2.1 ∧ cnt = u9.2.2.1 ∧ S = u9.2.2.2.1) (fun (u9 : OS) => fmB (LB cI cC cJ cZ cQ x0 a0 a1 a2 a3 a4 a5 a6 v0 v1 t0 t1 h0 u0 u1 pa rg u9.1 u9.2.1 u9.2.2.1 u9.2.2.2.1 u9.2.2.2.2.1 u9.2.2.2.2.2.1 u9.2.2.2.2.2.2.1 u9.2.2.2.2.2.2.2) [0, 1, 2, 3, 4, 5, 6, 7]) A) args s 0 0 A) (F0 m 67 ls []) := by
                intro fuel
                induction fuel with
                | zero => intro k hj0 hm; exact absurd hm (Nat.not_lt_zero _)
                | succ fuel ih67 =>
                  intro k hj0 hm H locs hP hD hS ls hl
                  refine lv_iload hx hb dL_isWhole_67 (lv_at hl 0 rfl) ?_
                  refine lv_iload_n hx hb dL_isWhole_69 rfl (lv_at hl 3 rfl) ?_
                  refine lv_icmp_ge (tgt := 118) hx hb dL_isWhole_70 (by decide) (fun c_70 => ?_) (fun c_70 => ?_)
                  · have c_70 : z.2.2.2.2.2.1 ≤ k := (nI_leI (a := z.2.2.2.2.2.1) (b := k) (by omega) (by omega)).mp c_70
                    have hk9 : k = z.2.2.2.2.2.1 := by omega
                    rw [hk9] at hl
                    refine lv_iconst (v := 0) hx hb dL_isWhole_118 (by decide) ?_
                    refine lv_istore (lv' := [(6, .int 0), (5, .int 1), (4, .int (nI (lmS (sumB z.2.2.2.2.2.2.2.1 z.2.2.2.2.2.1) 4095 1))), (3, .int (nI z.2.2.2.2.2.1)), (2, .int 0), (1, .int (nI (sumN z.2.2.2.2.2.2.2.1 z.2.2.2.2.2.1))), (0, .ref x0)]) hx hb dL_isWhole_119 hl (by decide) rfl (fun ls hl => ?_)
                    have J121 : ∀ (fuel : Nat) (k2 : Nat) (hk2 : k2 ≤ z.2.2.2.2.2.2.1) (hm : z.2.2.2.2.2.2.1 - k2 < fuel) (H : Heap) (locs : List Loc) (hP : va_P D vwCl (fmB (LB cI cC cJ cZ cQ x0 a0 a1 a2 a3 a4 a5 a6 v0 v1 t0 t1 h0 u0 u1 pa rg z nx cnt S (fillG z.2.2.2.2.2.2.2.1 z.2.2.2.2.2.1) hv hk hc) [0, 1, 2, 3, 4, 5, 6, 7]) H) (hD : va_D A (fmB (LB cI cC cJ cZ cQ x0 a0 a1 a2 a3 a4 a5 a6 v0 v1 t0 t1 h0 u0 u1 pa rg z nx cnt S (fillG z.2.2.2.2.2.2.2.1 z.2.2.2.2.2.1) hv hk hc) [0, 1, 2, 3, 4, 5, 6, 7])) (hS : va_S A s1.heap H locs) (ls : Array Slot) (hl : lv_has ls 9 [(6, .int (nI k2)), (5, .int 1), (4, .int (nI (lmS (sumB z.2.2.2.2.2.2.2.1 z.2.2.2.2.2.1) 4095 1))), (3, .int (nI z.2.2.2.2.2.1)), (2, .int (errS z.2.2.2.2.2.2.2.2.1 z.2.2.2.2.2.2.2.2.2.2 k2)), (1, .int (nI (sumN z.2.2.2.2.2.2.2.1 z.2.2.2.2.2.1))), (0, .ref x0)]), W p l e rmmL_isWhole s1 m args below meth c H locs 0 0 (MQD lw_cs below (oQi D (fun (r9 : Int32) (u9 : OS) => 1 = r9 ∧ z = u9.1 ∧ nx = u9.2.1 ∧ cnt = u9.2.2.1 ∧ S = u9.2.2.2.1) (fun (u9 : OS) => fmB (LB cI cC cJ cZ cQ x0 a0 a1 a2 a3 a4 a5 a6 v0 v1 t0 t1 h0 u0 u1 pa rg u9.1 u9.2.1 u9.2.2.1 u9.2.2.2.1 u9.2.2.2.2.1 u9.2.2.2.2.2.1 u9.2.2.2.2.2.2.1 u9.2.2.2.2.2.2.2) [0, 1, 2, 3, 4, 5, 6, 7]) A) args s 0 0 A) (F0 m 121 ls []) := by
                      intro fuel
                      induction fuel with
                      | zero => intro k2 hk2 hm; exact absurd hm (Nat.not_lt_zero _)
                      | succ fuel ih121 =>
                        intro k2 hk2 hm H locs hP hD hS ls hl
                        refine lv_iload hx hb dL_isWhole_121 (lv_at hl 0 rfl) ?_
                        refine lv_aload_n hx hb dL_isWhole_123 rfl (lv_at hl 6 rfl) ?_
                        refine lq_v (B0 := (LB cI cC cJ cZ cQ x0 a0 a1 a2 a3 a4 a5 a6 v0 v1 t0 t1 h0 u0 u1 pa rg z nx cnt S (fillG z.2.2.2.2.2.2.2.1 z.2.2.2.2.2.1) hv hk hc)) (B1 := (LB cI cC cJ cZ cQ x0 a0 a1 a2 a3 a4 a5 a6 v0 v1 t0 t1 h0 u0 u1 pa rg z nx cnt S (fillG z.2.2.2.2.2.2.2.1 z.2.2.2.2.2.1) hv hk hc)) (U := [0, 1, 2, 3, 4, 5, 6, 7]) (isC := [0, 1]) (isR := [2, 3, 4, 5, 6, 7]) (As := []) (rest := [.int (nI k2)]) ⟨hx, hb, hml, hown, hts⟩ (kX7_logged l D H.size cI cC cJ cZ cQ x0 v0 t0 h0 u0 a0 a1 a2 a3 a4 a5 a6 z) (cwV 0 hts gL_isWhole_X7_logged rfl rfl rfl (by decide +kernel) ⟨Nat.le_of_ble_eq_true rfl, Nat.le_of_ble_eq_true rfl⟩) hP hD hK hS hA hN (by decide) rfl rfl rfl 0 7 rfl rfl rfl rfl hl.1 rfl (Nat.le_of_ble_eq_true rfl) dL_isWhole_124 ⟨Nat.le_of_ble_eq_true rfl, Nat.le_of_ble_eq_true rfl⟩ (fun H locs hP hD hS => ?_)
                        refine lv_icmp_ge (tgt := 251) hx hb dL_isWhole_127 (by decide) (fun c_127 => ?_) (fun c_127 => ?_)
                        · have c_127 : z.2.2.2.2.2.2.1 ≤ k2 := (nI_leI (a := z.2.2.2.2.2.2.1) (b := k2) (by omega) (by omega)).mp c_127
                          have hk8 : k2 = z.2.2.2.2.2.2.1 := by omega
                          rw [hk8] at hl
                          refine lv_aload_n hx hb dL_isWhole_251 rfl (lv_at hl 6 rfl) ?_
                          refine lq_v (B0 := (LB cI cC cJ cZ cQ x0 a0 a1 a2 a3 a4 a5 a6 v0 v1 t0 t1 h0 u0 u1 pa rg z nx cnt S (fillG z.2.2.2.2.2.2.2.1 z.2.2.2.2.2.1) hv hk hc)) (B1 := (LB cI cC cJ cZ cQ x0 a0 a1 a2 a3 a4 a5 a6 v0 v1 t0 t1 h0 u0 u1 pa rg z nx cnt S (fillG z.2.2.2.2.2.2.2.1 z.2.2.2.2.2.1) hv hk hc)) (U := [0, 1, 2, 3, 4, 5, 6, 7]) (isC := [0, 1, 7]) (isR := [2, 3, 4, 5, 6]) (As := []) (rest := []) ⟨hx, hb, hml, hown, hts⟩ (kX7_sums l D H.size cI cC cJ cZ cQ x0 v0 t0 h0 u0 a0 a1 a2 a3 a4 a5 a6 z u1 (fillG z.2.2.2.2.2.2.2.1 z.2.2.2.2.2.1) (by first | assumption | omega) (by first | assumption | omega)) (cwV 0 hts gL_isWhole_X7_sums rfl rfl rfl (by decide +kernel) ⟨Nat.le_of_ble_eq_true rfl, Nat.le_of_ble_eq_true rfl⟩) hP hD hK hS hA hN (by decide) rfl rfl rfl 0 7 rfl rfl rfl rfl hl.1 rfl (Nat.le_of_ble_eq_true rfl) dL_isWhole_252 ⟨Nat.le_of_ble_eq_true rfl, Nat.le_of_ble_eq_true rfl⟩ (fun H locs hP hD hS => ?_)
                          refine k_topi (y := nI (cntB (sumB z.2.2.2.2.2.2.2.1 z.2.2.2.2.2.1) 4096)) hcs ?_
                          refine lv_istore (lv' := [(6, .int (nI (cntB (sumB z.2.2.2.2.2.2.2.1 z.2.2.2.2.2.1) 4096))), (5, .int 1), (4, .int (nI (lmS (sumB z.2.2.2.2.2.2.2.1 z.2.2.2.2.2.1) 4095 1))), (3, .int (nI z.2.2.2.2.2.1)), (2, .int (errS z.2.2.2.2.2.2.2.2.1 z.2.2.2.2.2.2.2.2.2.2 z.2.2.2.2.2.2.1)), (1, .int (nI (sumN z.2.2.2.2.2.2.2.1 z.2.2.2.2.2.1))), (0, .ref x0)]) hx hb dL_isWhole_255 hl (by decide) rfl (fun ls hl => ?_)
                          refine lv_iload hx hb dL_isWhole_257 (lv_at hl 1 rfl) ?_
                          refine lv_if_eq (tgt := 387) hx hb dL_isWhole_259 (by decide) (fun h => absurd h (by decide)) (fun _ => ?_)
                          refine lv_iload_n hx hb dL_isWhole_262 rfl (lv_at hl 5 rfl) ?_
                          refine lv_aload_n hx hb dL_isWhole_263 rfl (lv_at hl 6 rfl) ?_
                          refine lq_v (B0 := (LB cI cC cJ cZ cQ x0 a0 a1 a2 a3 a4 a5 a6 v0 v1 t0 t1 h0 u0 u1 pa rg z nx cnt S (fillG z.2.2.2.2.2.2.2.1 z.2.2.2.2.2.1) hv hk hc)) (B1 := (LB cI cC cJ cZ cQ x0 a0 a1 a2 a3 a4 a5 a6 v0 v1 t0 t1 h0 u0 u1 pa rg z nx cnt S (fillG z.2.2.2.2.2.2.2.1 z.2.2.2.2.2.1) hv hk hc)) (U := [0, 1, 2, 3, 4, 5, 6, 7]) (isC := [0, 1]) (isR := [2, 3, 4, 5, 6, 7]) (As := []) (rest := [.int (nI (sumN z.2.2.2.2.2.2.2.1 z.2.2.2.2.2.1))]) ⟨hx, hb, hml, hown, hts⟩ (kX7_total l D H.size cI cC cJ cZ cQ x0 v0 t0 h0 u0 a0 a1 a2 a3 a4 a5 a6 z (by first | assumption | omega)) (cwV 0 hts gL_isWhole_X7_total rfl rfl rfl (by decide +kernel) ⟨Nat.le_of_ble_eq_true rfl, Nat.le_of_ble_eq_true rfl⟩) hP hD hK hS hA hN (by decide) rfl rfl rfl 0 7 rfl rfl rfl rfl hl.1 rfl (Nat.le_of_ble_eq_true rfl) dL_isWhole_264 ⟨Nat.le_of_ble_eq_true rfl, Nat.le_of_ble_eq_true rfl⟩ (fun H locs hP hD hS => ?_)
                          refine k_topi (y := nI (sumN z.2.2.2.2.2.2.2.1 z.2.2.2.2.2.1)) (sumW_N _ (fun k9 h9 => (hff k9 h9).1)) ?_
                          refine lv_icmp_ne (tgt := 387) hx hb dL_isWhole_267 (by decide) (fun c_267 => ?_) (fun c_267 => ?_)
                          · exact absurd rfl c_267
                          · refine lv_iload hx hb dL_isWhole_270 (lv_at hl 2 rfl) ?_
                            refine lv_if_le (tgt := 387) hx hb dL_isWhole_272 (by decide) (fun c_272 => ?_) (fun c_272 => ?_)
                            · have c_272 : (lmS (sumB z.2.2.2.2.2.2.2.1 z.2.2.2.2.2.1) 4095 1) ≤ 0 := (nI_leI (a := (lmS (sumB z.2.2.2.2.2.2.2.1 z.2.2.2.2.2.1) 4095 1)) (b := 0) (by omega) (by omega)).mp c_272
                              omega
                            · have c_272 : ¬ (lmS (sumB z.2.2.2.2.2.2.2.1 z.2.2.2.2.2.1) 4095 1) ≤ 0 := fun h => c_272 ((nI_leI (a := (lmS (sumB z.2.2.2.2.2.2.2.1 z.2.2.2.2.2.1) 4095 1)) (b := 0) (by omega) (by omega)).mpr h)
                              refine lv_iload hx hb dL_isWhole_275 (lv_at hl 2 rfl) ?_
                              refine lv_iload_n hx hb dL_isWhole_277 rfl (lv_at hl 5 rfl) ?_
                              refine lv_iconst (v := 1) hx hb dL_isWhole_278 (by decide) ?_
                              refine lv_iadd hx hb dL_isWhole_279 ?_
                              refine k_topi (y := nI ((sumN z.2.2.2.2.2.2.2.1 z.2.2.2.2.2.1) + 1)) (nI_add (sumN z.2.2.2.2.2.2.2.1 z.2.2.2.2.2.1) 1) ?_
                              refine lv_icmp_gt (tgt := 387) hx hb dL_isWhole_280 (by decide) (fun c_280 => ?_) (fun c_280 => ?_)
                              · have c_280 : ((sumN z.2.2.2.2.2.2.2.1 z.2.2.2.2.2.1) + 1) < (lmS (sumB z.2.2.2.2.2.2.2.1 z.2.2.2.2.2.1) 4095 1) := (nI_ltI (a := ((sumN z.2.2.2.2.2.2.2.1 z.2.2.2.2.2.1) + 1)) (b := (lmS (sumB z.2.2.2.2.2.2.2.1 z.2.2.2.2.2.1) 4095 1)) (by omega) (by omega)).mp c_280
                                omega
                              · have c_280 : ¬ ((sumN z.2.2.2.2.2.2.2.1 z.2.2.2.2.2.1) + 1) < (lmS (sumB z.2.2.2.2.2.2.2.1 z.2.2.2.2.2.1) 4095 1) := fun h => c_280 ((nI_ltI (a := ((sumN z.2.2.2.2.2.2.2.1 z.2.2.2.2.2.1) + 1)) (b := (lmS (sumB z.2.2.2.2.2.2.2.1 z.2.2.2.2.2.1) 4095 1)) (by omega) (by omega)).mpr h)
                                have J301 : ∀ (q9 : Nat) (hq9 : q9 ≤ cntB (sumB z.2.2.2.2.2.2.2.1 z.2.2.2.2.2.1) 4096) (hq8 : q9 ≤ 4096) (H : Heap) (locs : List Loc) (hP : va_P D vwCl (fmB (LB cI cC cJ cZ cQ x0 a0 a1 a2 a3 a4 a5 a6 v0 v1 t0 t1 h0 u0 u1 pa rg z nx cnt S (fillG z.2.2.2.2.2.2.2.1 z.2.2.2.2.2.1) hv hk hc) [0, 1, 2, 3, 4, 5, 6, 7]) H) (hD : va_D A (fmB (LB cI cC cJ cZ cQ x0 a0 a1 a2 a3 a4 a5 a6 v0 v1 t0 t1 h0 u0 u1 pa rg z nx cnt S (fillG z.2.2.2.2.2.2.2.1 z.2.2.2.2.2.1) hv hk hc) [0, 1, 2, 3, 4, 5, 6, 7])) (hS : va_S A s1.heap H locs) (ls : Array Slot) (hl : lv_has ls 9 [(6, .int (nI (cntB (sumB z.2.2.2.2.2.2.2.1 z.2.2.2.2.2.1) 4096))), (5, .int 1), (4, .int (nI (lmS (sumB z.2.2.2.2.2.2.2.1 z.2.2.2.2.2.1) 4095 1))), (3, .int (nI z.2.2.2.2.2.1)), (2, .int (errS z.2.2.2.2.2.2.2.2.1 z.2.2.2.2.2.2.2.2.2.2 z.2.2.2.2.2.2.1)), (1, .int (nI (sumN z.2.2.2.2.2.2.2.1 z.2.2.2.2.2.1))), (0, .ref x0)]), W p l e rmmL_isWhole s1 m args below meth c H locs 0 0 (MQD lw_cs below (oQi D (fun (r9 : Int32) (u9 : OS) => 1 = r9 ∧ z = u9.1 ∧ nx = u9.2.1 ∧ cnt = u9.2.2.1 ∧ S = u9.2.2.2.1) (fun (u9 : OS) => fmB (LB cI cC cJ cZ cQ x0 a0 a1 a2 a3 a4 a5 a6 v0 v1 t0 t1 h0 u0 u1 pa rg u9.1 u9.2.1 u9.2.2.1 u9.2.2.2.1 u9.2.2.2.2.1 u9.2.2.2.2.2.1 u9.2.2.2.2.2.2.1 u9.2.2.2.2.2.2.2) [0, 1, 2, 3, 4, 5, 6, 7]) A) args s 0 0 A) (F0 m 301 ls [.int (nI q9), .int (nI (cntB (sumB z.2.2.2.2.2.2.2.1 z.2.2.2.2.2.1) 4096))]) := by
                                  intro q9 hq9 hq8 H locs hP hD hS ls hl
                                  refine lv_icmp_lt (tgt := 387) hx hb dL_isWhole_301 (by decide) (fun c_301 => ?_) (fun c_301 => ?_)
                                  · have c_301 : (cntB (sumB z.2.2.2.2.2.2.2.1 z.2.2.2.2.2.1) 4096) < q9 := (nI_ltI (a := (cntB (sumB z.2.2.2.2.2.2.2.1 z.2.2.2.2.2.1) 4096)) (b := q9) (by omega) (by omega)).mp c_301
                                    omega
                                  · have c_301 : ¬ (cntB (sumB z.2.2.2.2.2.2.2.1 z.2.2.2.2.2.1) 4096) < q9 := fun h => c_301 ((nI_ltI (a := (cntB (sumB z.2.2.2.2.2.2.2.1 z.2.2.2.2.2.1) 4096)) (b := q9) (by omega) (by omega)).mpr h)
                                    refine lv_iload hx hb dL_isWhole_304 (lv_at hl 0 rfl) ?_
                                    refine lv_iconst (v := 1) hx hb dL_isWhole_306 (by decide) ?_
                                    refine lv_iload_n hx hb dL_isWhole_307 rfl (lv_at hl 3 rfl) ?_
                                    refine lv_ishl hx hb dL_isWhole_308 ?_
                                    refine k_topi (y := nI (2 ^ z.2.2.2.2.2.1)) (pw_shl (by omega)) ?_
                                    refine lv_icmp_gt (tgt := 387) hx hb dL_isWhole_309 (by decide) (fun c_309 => ?_) (fun c_309 => ?_)
                                    · have c_309 : (2 ^ z.2.2.2.2.2.1) < (cntB (sumB z.2.2.2.2.2.2.2.1 z.2.2.2.2.2.1) 4096) := (nI_ltI (a := (2 ^ z.2.2.2.2.2.1)) (b := (cntB (sumB z.2.2.2.2.2.2.2.1 z.2.2.2.2.2.1) 4096)) (by omega) (by omega)).mp c_309
                                      omega
                                    · have c_309 : ¬ (2 ^ z.2.2.2.2.2.1) < (cntB (sumB z.2.2.2.2.2.2.2.1 z.2.2.2.2.2.1) 4096) := fun h => c_309 ((nI_ltI (a := (2 ^ z.2.2.2.2.2.1)) (b := (cntB (sumB z.2.2.2.2.2.2.2.1 z.2.2.2.2.2.1) 4096)) (by omega) (by omega)).mpr h)
                                      refine lv_iload hx hb dL_isWhole_312 (lv_at hl 0 rfl) ?_
                                      refine lv_sipush (v := 4096) hx hb dL_isWhole_314 (by decide) ?_
                                      refine lv_icmp_gt (tgt := 387) hx hb dL_isWhole_317 (by decide) (fun c_317 => ?_) (fun c_317 => ?_)
                                      · have c_317 : 4096 < (cntB (sumB z.2.2.2.2.2.2.2.1 z.2.2.2.2.2.1) 4096) := (nI_ltI (a := 4096) (b := (cntB (sumB z.2.2.2.2.2.2.2.1 z.2.2.2.2.2.1) 4096)) (by omega) (by omega)).mp c_317
                                        omega
                                      · have c_317 : ¬ 4096 < (cntB (sumB z.2.2.2.2.2.2.2.1 z.2.2.2.2.2.1) 4096) := fun h => c_317 ((nI_ltI (a := 4096) (b := (cntB (sumB z.2.2.2.2.2.2.2.1 z.2.2.2.2.2.1) 4096)) (by omega) (by omega)).mpr h)
                                        refine lv_iload hx hb dL_isWhole_320 (lv_at hl 0 rfl) ?_
                                        refine lv_iload_n hx hb dL_isWhole_322 rfl (lv_at hl 5 rfl) ?_
                                        refine lv_iconst (v := 1) hx hb dL_isWhole_323 (by decide) ?_
                                        refine lv_iadd hx hb dL_isWhole_324 ?_
                                        refine k_topi (y := nI ((sumN z.2.2.2.2.2.2.2.1 z.2.2.2.2.2.1) + 1)) (nI_add (sumN z.2.2.2.2.2.2.2.1 z.2.2.2.2.2.1) 1) ?_
                                        refine lv_icmp_gt (tgt := 387) hx hb dL_isWhole_325 (by decide) (fun c_325 => ?_) (fun c_325 => ?_)
                                        · have c_325 : ((sumN z.2.2.2.2.2.2.2.1 z.2.2.2.2.2.1) + 1) < (cntB (sumB z.2.2.2.2.2.2.2.1 z.2.2.2.2.2.1) 4096) := (nI_ltI (a := ((sumN z.2.2.2.2.2.2.2.1 z.2.2.2.2.2.1) + 1)) (b := (cntB (sumB z.2.2.2.2.2.2.2.1 z.2.2.2.2.2.1) 4096)) (by omega) (by omega)).mp c_325
                                          omega
                                        · have c_325 : ¬ ((sumN z.2.2.2.2.2.2.2.1 z.2.2.2.2.2.1) + 1) < (cntB (sumB z.2.2.2.2.2.2.2.1 z.2.2.2.2.2.1) 4096) := fun h => c_325 ((nI_ltI (a := ((sumN z.2.2.2.2.2.2.2.1 z.2.2.2.2.2.1) + 1)) (b := (cntB (sumB z.2.2.2.2.2.2.2.1 z.2.2.2.2.2.1) 4096)) (by omega) (by omega)).mpr h)
                                          obtain ⟨cN, hcN, ecN⟩ := (wg_all (leak := z.2.2.1) (off := z.2.2.2.1) (gl := z.2.2.2.2.1) (v0 := z.1) hwz hff).2.2.2.2
                                          refine lv_aload_n hx hb dL_isWhole_328 rfl (lv_at hl 6 rfl) ?_
                                          refine lq_v (B0 := (LB cI cC cJ cZ cQ x0 a0 a1 a2 a3 a4 a5 a6 v0 v1 t0 t1 h0 u0 u1 pa rg z nx cnt S (fillG z.2.2.2.2.2.2.2.1 z.2.2.2.2.2.1) hv hk hc)) (B1 := (LB cI cC cJ cZ cQ x0 a0 a1 a2 a3 a4 a5 a6 v0 v1 t0 t1 h0 u0 u1 pa rg z nx cnt S (fillG z.2.2.2.2.2.2.2.1 z.2.2.2.2.2.1) ((wgS z.2.2.2.2.2.2.2.1 z.2.2.1 z.2.2.2.1 z.2.2.2.2.1 z.1 z.2.2.2.2.2.1).1) ((wgS z.2.2.2.2.2.2.2.1 z.2.2.1 z.2.2.2.1 z.2.2.2.2.1 z.1 z.2.2.2.2.2.1).2.1) ((wgS z.2.2.2.2.2.2.2.1 z.2.2.1 z.2.2.2.1 z.2.2.2.2.1 z.1 z.2.2.2.2.2.1).2.2))) (U := [0, 1, 2, 3, 4, 5, 6, 7]) (isC := [0, 1, 6]) (isR := [2, 3, 4, 5, 7]) (As := []) (rest := []) ⟨hx, hb, hml, hown, hts⟩ (kX7_nextCode l D H.size cI cC cJ cZ cQ x0 v0 t0 h0 u0 a0 a1 a2 a3 a4 a5 a6 z hv hk hc (by first | assumption | omega)) (cwV 0 hts gL_isWhole_X7_nextCode rfl rfl rfl (by decide +kernel) ⟨Nat.le_of_ble_eq_true rfl, Nat.le_of_ble_eq_true rfl⟩) hP hD hK hS hA hN (by decide) rfl rfl rfl 0 7 rfl rfl rfl rfl hl.1 rfl (Nat.le_of_ble_eq_true rfl) dL_isWhole_329 ⟨Nat.le_of_ble_eq_true rfl, Nat.le_of_ble_eq_true rfl⟩ (fun H locs hP hD hS => ?_)
                                          refine k_topi (y := nI cN) ecN ?_
                                          refine lv_if_lt (tgt := 387) hx hb dL_isWhole_332 (by decide) (fun c_332 => ?_) (fun c_332 => ?_)
                                          · have c_332 : cN < 0 := (nI_ltI (a := cN) (b := 0) (by omega) (by omega)).mp c_332
                                            omega
                                          · have c_332 : ¬ cN < 0 := fun h => c_332 ((nI_ltI (a := cN) (b := 0) (by omega) (by omega)).mpr h)
                                            refine lv_aload_n hx hb dL_isWhole_335 rfl (lv_at hl 6 rfl) ?_
                                            refine lq_v (B0 := (LB cI cC cJ cZ cQ x0 a0 a1 a2 a3 a4 a5 a6 v0 v1 t0 t1 h0 u0 u1 pa rg z nx cnt S (fillG z.2.2.2.2.2.2.2.1 z.2.2.2.2.2.1) ((wgS z.2.2.2.2.2.2.2.1 z.2.2.1 z.2.2.2.1 z.2.2.2.2.1 z.1 z.2.2.2.2.2.1).1) ((wgS z.2.2.2.2.2.2.2.1 z.2.2.1 z.2.2.2.1 z.2.2.2.2.1 z.1 z.2.2.2.2.2.1).2.1) ((wgS z.2.2.2.2.2.2.2.1 z.2.2.1 z.2.2.2.1 z.2.2.2.2.1 z.1 z.2.2.2.2.2.1).2.2))) (B1 := (LB cI cC cJ cZ cQ x0 a0 a1 a2 a3 a4 a5 a6 v0 v1 t0 t1 h0 u0 u1 pa rg z nx cnt S (fillG z.2.2.2.2.2.2.2.1 z.2.2.2.2.2.1) ((wgS z.2.2.2.2.2.2.2.1 z.2.2.1 z.2.2.2.1 z.2.2.2.2.1 z.1 z.2.2.2.2.2.1).1) ((wgS z.2.2.2.2.2.2.2.1 z.2.2.1 z.2.2.2.1 z.2.2.2.2.1 z.1 z.2.2.2.2.2.1).2.1) ((wgS z.2.2.2.2.2.2.2.1 z.2.2.1 z.2.2.2.1 z.2.2.2.2.1 z.1 z.2.2.2.2.2.1).2.2))) (U := [0, 1, 2, 3, 4, 5, 6, 7]) (isC := [0, 1, 6]) (isR := [2, 3, 4, 5, 7]) (As := []) (rest := []) ⟨hx, hb, hml, hown, hts⟩ (kX7_nextCode l D H.size cI cC cJ cZ cQ x0 v0 t0 h0 u0 a0 a1 a2 a3 a4 a5 a6 z ((wgS z.2.2.2.2.2.2.2.1 z.2.2.1 z.2.2.2.1 z.2.2.2.2.1 z.1 z.2.2.2.2.2.1).1) ((wgS z.2.2.2.2.2.2.2.1 z.2.2.1 z.2.2.2.1 z.2.2.2.2.1 z.1 z.2.2.2.2.2.1).2.1) ((wgS z.2.2.2.2.2.2.2.1 z.2.2.1 z.2.2.2.1 z.2.2.2.2.1 z.1 z.2.2.2.2.2.1).2.2) (by first | assumption | omega)) (cwV 0 hts gL_isWhole_X7_nextCode rfl rfl rfl (by decide +kernel) ⟨Nat.le_of_ble_eq_true rfl, Nat.le_of_ble_eq_true rfl⟩) hP hD hK hS hA hN (by decide) rfl rfl rfl 0 7 rfl rfl rfl rfl hl.1 rfl (Nat.le_of_ble_eq_true rfl) dL_isWhole_336 ⟨Nat.le_of_ble_eq_true rfl, Nat.le_of_ble_eq_true rfl⟩ (fun H locs hP hD hS => ?_)
                                            refine k_topi (y := nI cN) ecN ?_
                                            refine lv_iload_n hx hb dL_isWhole_339 rfl (lv_at hl 5 rfl) ?_
                                            refine lv_icmp_gt (tgt := 387) hx hb dL_isWhole_340 (by decide) (fun c_340 => ?_) (fun c_340 => ?_)
                                            · have c_340 : (sumN z.2.2.2.2.2.2.2.1 z.2.2.2.2.2.1) < cN := (nI_ltI (a := (sumN z.2.2.2.2.2.2.2.1 z.2.2.2.2.2.1)) (b := cN) (by omega) (by omega)).mp c_340
                                              omega
                                            · have c_340 : ¬ (sumN z.2.2.2.2.2.2.2.1 z.2.2.2.2.2.1) < cN := fun h => c_340 ((nI_ltI (a := (sumN z.2.2.2.2.2.2.2.1 z.2.2.2.2.2.1)) (b := cN) (by omega) (by omega)).mpr h)
                                              refine lv_aload_n hx hb dL_isWhole_343 rfl (lv_at hl 6 rfl) ?_
                                              exact iw_tail (wd := (fillG z.2.2.2.2.2.2.2.1 z.2.2.2.2.2.1)) (hv := ((wgS z.2.2.2.2.2.2.2.1 z.2.2.1 z.2.2.2.1 z.2.2.2.2.1 z.1 z.2.2.2.2.2.1).1)) (hk := ((wgS z.2.2.2.2.2.2.2.1 z.2.2.1 z.2.2.2.1 z.2.2.2.2.1 z.1 z.2.2.2.2.2.1).2.1)) (hc := ((wgS z.2.2.2.2.2.2.2.1 z.2.2.1 z.2.2.2.1 z.2.2.2.2.1 z.1 z.2.2.2.2.2.1).2.2)) hx hb hr hts hown hlocks hml hs1 hd0 hP hD hK hA hS hN hE hO (lv_sub hl [6, 4] rfl) hlz (e_sum hI.1.2 _ (Nat.le_refl _) hlz)
                                refine lv_iload hx hb dL_isWhole_283 (lv_at hl 0 rfl) ?_
                                refine lv_iload hx hb dL_isWhole_285 (lv_at hl 2 rfl) ?_
                                refine lv_sipush (v := 4096) hx hb dL_isWhole_287 (by decide) ?_
                                refine lv_icmp_ge (tgt := 298) hx hb dL_isWhole_290 (by decide) (fun c_290 => ?_) (fun c_290 => ?_)
                                · have c_290 : 4096 ≤ (lmS (sumB z.2.2.2.2.2.2.2.1 z.2.2.2.2.2.1) 4095 1) := (nI_leI (a := 4096) (b := (lmS (sumB z.2.2.2.2.2.2.2.1 z.2.2.2.2.2.1) 4095 1)) (by omega) (by omega)).mp c_290
                                  refine lv_sipush (v := 4096) hx hb dL_isWhole_298 (by decide) ?_
                                  exact J301 4096 (by first | assumption | omega) (by first | assumption | omega) _ _ hP hD hS _ (lv_sub hl [0, 1, 2, 3, 4, 5, 6] rfl)
                                · have c_290 : ¬ 4096 ≤ (lmS (sumB z.2.2.2.2.2.2.2.1 z.2.2.2.2.2.1) 4095 1) := fun h => c_290 ((nI_leI (a := 4096) (b := (lmS (sumB z.2.2.2.2.2.2.2.1 z.2.2.2.2.2.1) 4095 1)) (by omega) (by omega)).mpr h)
                                  refine lv_iload hx hb dL_isWhole_293 (lv_at hl 2 rfl) ?_
                                  refine lv_goto (tgt := 301) hx hb dL_isWhole_295 (by decide) ?_
                                  exact J301 (lmS (sumB z.2.2.2.2.2.2.2.1 z.2.2.2.2.2.1) 4095 1) (by first | assumption | omega) (by first | assumption | omega) _ _ hP hD hS _ (lv_sub hl [0, 1, 2, 3, 4, 5, 6] rfl)
                        · have c_127 : ¬ z.2.2.2.2.2.2.1 ≤ k2 := fun h => c_127 ((nI_leI (a := z.2.2.2.2.2.2.1) (b := k2) (by omega) (by omega)).mpr h)
                          refine lv_iload hx hb dL_isWhole_130 (lv_at hl 1 rfl) ?_
                          refine lv_if_eq (tgt := 251) hx hb dL_isWhole_132 (by decide) (fun h => absurd h (by decide)) (fun _ => ?_)
                          have hlk := hl9 k2 (by omega)
                          refine lv_aload_n hx hb dL_isWhole_135 rfl (lv_at hl 6 rfl) ?_
                          refine lv_iconst (v := 1) hx hb dL_isWhole_136 (by decide) ?_
                          refine lv_iload hx hb dL_isWhole_137 (lv_at hl 0 rfl) ?_
                          refine lq_s (B0 := (LB cI cC cJ cZ cQ x0 a0 a1 a2 a3 a4 a5 a6 v0 v1 t0 t1 h0 u0 u1 pa rg z nx cnt S (fillG z.2.2.2.2.2.2.2.1 z.2.2.2.2.2.1) hv hk hc)) (B1 := (LB cI cC cJ cZ cQ x0 a0 a1 a2 a3 a4 a5 a6 v0 v1 t0 t1 h0 u0 u1 pa rg z nx cnt S (fillG z.2.2.2.2.2.2.2.1 z.2.2.2.2.2.1) hv hk hc)) (U := [0, 1, 2, 3, 4, 5, 6, 7]) (isC := [0, 1]) (isR := [2, 3, 4, 5, 6, 7]) (As := [.ref x0, .int 1, .int (nI k2)]) (rest := []) ⟨hx, hb, hml, hown, hts⟩ (kL_code_ok l D H.size cI cC cJ cZ cQ x0 v0 t0 h0 u0 a0 a1 a2 a3 a4 a5 a6 z k2 (by first | assumption | omega) (by first | assumption | omega)) (vx_cwSW 3 hts gL_isWhole_L_ask rfl rfl rfl (by decide +kernel) ⟨Nat.le_of_ble_eq_true rfl, Nat.le_of_ble_eq_true rfl⟩) hP hD hK hS hA hN (by decide) rfl rfl rfl rfl hl.1 rfl (Nat.le_of_ble_eq_true rfl) dL_isWhole_139 ⟨Nat.le_of_ble_eq_true rfl, Nat.le_of_ble_eq_true rfl⟩ (fun H locs hP hD hS => ?_)
                          refine lv_istore (lv' := [(7, .int (z.2.2.2.2.2.2.2.2.2.2 k2)), (6, .int (nI k2)), (5, .int 1), (4, .int (nI (lmS (sumB z.2.2.2.2.2.2.2.1 z.2.2.2.2.2.1) 4095 1))), (3, .int (nI z.2.2.2.2.2.1)), (2, .int (errS z.2.2.2.2.2.2.2.2.1 z.2.2.2.2.2.2.2.2.2.2 k2)), (1, .int (nI (sumN z.2.2.2.2.2.2.2.1 z.2.2.2.2.2.1))), (0, .ref x0)]) hx hb dL_isWhole_142 hl (by decide) rfl (fun ls hl => ?_)
                          refine lv_aload_n hx hb dL_isWhole_144 rfl (lv_at hl 7 rfl) ?_
                          refine lv_iconst (v := 3) hx hb dL_isWhole_145 (by decide) ?_
                          refine lv_iload hx hb dL_isWhole_146 (lv_at hl 1 rfl) ?_
                          refine lq_s (B0 := (LB cI cC cJ cZ cQ x0 a0 a1 a2 a3 a4 a5 a6 v0 v1 t0 t1 h0 u0 u1 pa rg z nx cnt S (fillG z.2.2.2.2.2.2.2.1 z.2.2.2.2.2.1) hv hk hc)) (B1 := (LB cI cC cJ cZ cQ x0 a0 a1 a2 a3 a4 a5 a6 v0 v1 t0 t1 h0 u0 u1 pa rg z nx cnt S (fillG z.2.2.2.2.2.2.2.1 z.2.2.2.2.2.1) hv hk hc)) (U := [0, 1, 2, 3, 4, 5, 6, 7]) (isC := [0, 1]) (isR := [2, 3, 4, 5, 6, 7]) (As := [.ref x0, .int 3, .int (nI k2)]) (rest := []) ⟨hx, hb, hml, hown, hts⟩ (kL_error_ok l D H.size cI cC cJ cZ cQ x0 v0 t0 h0 u0 a0 a1 a2 a3 a4 a5 a6 z k2 (by first | assumption | omega) (by first | assumption | omega)) (vx_cwSW 3 hts gL_isWhole_L_ask rfl rfl rfl (by decide +kernel) ⟨Nat.le_of_ble_eq_true rfl, Nat.le_of_ble_eq_true rfl⟩) hP hD hK hS hA hN (by decide) rfl rfl rfl rfl hl.1 rfl (Nat.le_of_ble_eq_true rfl) dL_isWhole_148 ⟨Nat.le_of_ble_eq_true rfl, Nat.le_of_ble_eq_true rfl⟩ (fun H locs hP hD hS => ?_)
                          refine lv_istore (lv' := [(8, .int (16 * z.2.2.2.2.2.2.2.2.2.2 k2 - z.2.2.2.2.2.2.2.2.1 k2)), (7, .int (z.2.2.2.2.2.2.2.2.2.2 k2)), (6, .int (nI k2)), (5, .int 1), (4, .int (nI (lmS (sumB z.2.2.2.2.2.2.2.1 z.2.2.2.2.2.1) 4095 1))), (3, .int (nI z.2.2.2.2.2.1)), (2, .int (errS z.2.2.2.2.2.2.2.2.1 z.2.2.2.2.2.2.2.2.2.2 k2)), (1, .int (nI (sumN z.2.2.2.2.2.2.2.1 z.2.2.2.2.2.1))), (0, .ref x0)]) hx hb dL_isWhole_151 hl (by decide) rfl (fun ls hl => ?_)
                          refine lv_iload_n hx hb dL_isWhole_153 rfl (lv_at hl 6 rfl) ?_
                          refine lv_iload hx hb dL_isWhole_154 (lv_at hl 0 rfl) ?_
                          refine lv_iadd hx hb dL_isWhole_156 ?_
                          refine lv_istore_n (lv' := [(2, .int ((errS z.2.2.2.2.2.2.2.2.1 z.2.2.2.2.2.2.2.2.2.2 k2) + (16 * z.2.2.2.2.2.2.2.2.2.2 k2 - z.2.2.2.2.2.2.2.2.1 k2))), (8, .int (16 * z.2.2.2.2.2.2.2.2.2.2 k2 - z.2.2.2.2.2.2.2.2.1 k2)), (7, .int (z.2.2.2.2.2.2.2.2.2.2 k2)), (6, .int (nI k2)), (5, .int 1), (4, .int (nI (lmS (sumB z.2.2.2.2.2.2.2.1 z.2.2.2.2.2.1) 4095 1))), (3, .int (nI z.2.2.2.2.2.1)), (1, .int (nI (sumN z.2.2.2.2.2.2.2.1 z.2.2.2.2.2.1))), (0, .ref x0)]) hx hb dL_isWhole_157 rfl hl (by decide) rfl (fun ls hl => ?_)
                          refine lv_iload hx hb dL_isWhole_158 (lv_at hl 2 rfl) ?_
                          refine lv_if_lt (tgt := 242) hx hb dL_isWhole_160 (by decide) (fun c_160 => ?_) (fun c_160 => ?_)
                          · exact absurd c_160 (c_lt (b := 0) (by decide) hlk.2.2.1.1)
                          · refine lv_aload_n hx hb dL_isWhole_163 rfl (lv_at hl 8 rfl) ?_
                            refine lv_iconst (v := 2) hx hb dL_isWhole_164 (by decide) ?_
                            refine lv_iload hx hb dL_isWhole_165 (lv_at hl 3 rfl) ?_
                            refine lq_s (B0 := (LB cI cC cJ cZ cQ x0 a0 a1 a2 a3 a4 a5 a6 v0 v1 t0 t1 h0 u0 u1 pa rg z nx cnt S (fillG z.2.2.2.2.2.2.2.1 z.2.2.2.2.2.1) hv hk hc)) (B1 := (LB cI cC cJ cZ cQ x0 a0 a1 a2 a3 a4 a5 a6 v0 v1 t0 t1 h0 u0 u1 pa rg z nx cnt S (fillG z.2.2.2.2.2.2.2.1 z.2.2.2.2.2.1) hv hk hc)) (U := [0, 1, 2, 3, 4, 5, 6, 7]) (isC := [0, 1]) (isR := [2, 3, 4, 5, 6, 7]) (As := [.ref x0, .int 2, .int (nI k2)]) (rest := []) ⟨hx, hb, hml, hown, hts⟩ (kL_kept_ok l D H.size cI cC cJ cZ cQ x0 v0 t0 h0 u0 a0 a1 a2 a3 a4 a5 a6 z k2 (by first | assumption | omega) (by first | assumption | omega)) (vx_cwSW 3 hts gL_isWhole_L_ask rfl rfl rfl (by decide +kernel) ⟨Nat.le_of_ble_eq_true rfl, Nat.le_of_ble_eq_true rfl⟩) hP hD hK hS hA hN (by decide) rfl rfl rfl rfl hl.1 rfl (Nat.le_of_ble_eq_true rfl) dL_isWhole_167 ⟨Nat.le_of_ble_eq_true rfl, Nat.le_of_ble_eq_true rfl⟩ (fun H locs hP hD hS => ?_)
                            refine lv_if_lt (tgt := 242) hx hb dL_isWhole_170 (by decide) (fun c_170 => ?_) (fun c_170 => ?_)
                            · exact absurd c_170 (c_lt (b := 0) (by decide) hlk.2.1.1)
                            · refine lv_aload_n hx hb dL_isWhole_173 rfl (lv_at hl 8 rfl) ?_
                              refine lv_iconst (v := 2) hx hb dL_isWhole_174 (by decide) ?_
                              refine lv_iload hx hb dL_isWhole_175 (lv_at hl 3 rfl) ?_
                              refine lq_s (B0 := (LB cI cC cJ cZ cQ x0 a0 a1 a2 a3 a4 a5 a6 v0 v1 t0 t1 h0 u0 u1 pa rg z nx cnt S (fillG z.2.2.2.2.2.2.2.1 z.2.2.2.2.2.1) hv hk hc)) (B1 := (LB cI cC cJ cZ cQ x0 a0 a1 a2 a3 a4 a5 a6 v0 v1 t0 t1 h0 u0 u1 pa rg z nx cnt S (fillG z.2.2.2.2.2.2.2.1 z.2.2.2.2.2.1) hv hk hc)) (U := [0, 1, 2, 3, 4, 5, 6, 7]) (isC := [0, 1]) (isR := [2, 3, 4, 5, 6, 7]) (As := [.ref x0, .int 2, .int (nI k2)]) (rest := []) ⟨hx, hb, hml, hown, hts⟩ (kL_kept_ok l D H.size cI cC cJ cZ cQ x0 v0 t0 h0 u0 a0 a1 a2 a3 a4 a5 a6 z k2 (by first | assumption | omega) (by first | assumption | omega)) (vx_cwSW 3 hts gL_isWhole_L_ask rfl rfl rfl (by decide +kernel) ⟨Nat.le_of_ble_eq_true rfl, Nat.le_of_ble_eq_true rfl⟩) hP hD hK hS hA hN (by decide) rfl rfl rfl rfl hl.1 rfl (Nat.le_of_ble_eq_true rfl) dL_isWhole_177 ⟨Nat.le_of_ble_eq_true rfl, Nat.le_of_ble_eq_true rfl⟩ (fun H locs hP hD hS => ?_)
                              refine lv_sipush (v := 4096) hx hb dL_isWhole_180 (by decide) ?_
                              refine lv_icmp_ge (tgt := 242) hx hb dL_isWhole_183 (by decide) (fun c_183 => ?_) (fun c_183 => ?_)
                              · exact absurd c_183 (c_nge (b := 4096) (by decide) (by omega))
                              · rcases (iff_cases hlk.2.2.2) with hb1 | hb2
                                · refine lv_iload hx hb dL_isWhole_186 (lv_at hl 2 rfl) ?_
                                  refine lv_if_ne (tgt := 195) hx hb dL_isWhole_188 (by decide) (fun c_188 => ?_) (fun c_188 => ?_)
                                  · exact absurd hb1.1 c_188
                                  · refine lv_iconst (v := 1) hx hb dL_isWhole_191 (by decide) ?_
                                    refine lv_goto (tgt := 196) hx hb dL_isWhole_192 (by decide) ?_
                                    refine lv_aload_n hx hb dL_isWhole_196 rfl (lv_at hl 8 rfl) ?_
                                    refine lv_iconst (v := 2) hx hb dL_isWhole_197 (by decide) ?_
                                    refine lv_iload hx hb dL_isWhole_198 (lv_at hl 3 rfl) ?_
                                    refine lq_s (B0 := (LB cI cC cJ cZ cQ x0 a0 a1 a2 a3 a4 a5 a6 v0 v1 t0 t1 h0 u0 u1 pa rg z nx cnt S (fillG z.2.2.2.2.2.2.2.1 z.2.2.2.2.2.1) hv hk hc)) (B1 := (LB cI cC cJ cZ cQ x0 a0 a1 a2 a3 a4 a5 a6 v0 v1 t0 t1 h0 u0 u1 pa rg z nx cnt S (fillG z.2.2.2.2.2.2.2.1 z.2.2.2.2.2.1) hv hk hc)) (U := [0, 1, 2, 3, 4, 5, 6, 7]) (isC := [0, 1]) (isR := [2, 3, 4, 5, 6, 7]) (As := [.ref x0, .int 2, .int (nI k2)]) (rest := [.int 1]) ⟨hx, hb, hml, hown, hts⟩ (kL_kept_ok l D H.size cI cC cJ cZ cQ x0 v0 t0 h0 u0 a0 a1 a2 a3 a4 a5 a6 z k2 (by first | assumption | omega) (by first | assumption | omega)) (vx_cwSW 3 hts gL_isWhole_L_ask rfl rfl rfl (by decide +kernel) ⟨Nat.le_of_ble_eq_true rfl, Nat.le_of_ble_eq_true rfl⟩) hP hD hK hS hA hN (by decide) rfl rfl rfl rfl hl.1 rfl (Nat.le_of_ble_eq_true rfl) dL_isWhole_200 ⟨Nat.le_of_ble_eq_true rfl, Nat.le_of_ble_eq_true rfl⟩ (fun H locs hP hD hS => ?_)
                                    refine lv_if_ne (tgt := 210) hx hb dL_isWhole_203 (by decide) (fun c_203 => ?_) (fun c_203 => ?_)
                                    · exact absurd hb1.2 c_203
                                    · refine lv_iconst (v := 1) hx hb dL_isWhole_206 (by decide) ?_
                                      refine lv_goto (tgt := 211) hx hb dL_isWhole_207 (by decide) ?_
                                      refine lv_icmp_ne (tgt := 242) hx hb dL_isWhole_211 (by decide) (fun h => absurd h (by decide)) (fun _ => ?_)
                                      refine lv_bipush (v := 16) hx hb dL_isWhole_214 (by decide) ?_
                                      refine lv_iload hx hb dL_isWhole_216 (lv_at hl 2 rfl) ?_
                                      refine lv_imul hx hb dL_isWhole_218 ?_
                                      refine lv_iload hx hb dL_isWhole_219 (lv_at hl 1 rfl) ?_
                                      refine lv_isub hx hb dL_isWhole_221 ?_
                                      refine k_topi (y := z.2.2.2.2.2.2.2.2.1 k2) (e_back _ _) ?_
                                      refine lv_if_lt (tgt := 242) hx hb dL_isWhole_222 (by decide) (fun c_222 => ?_) (fun c_222 => ?_)
                                      · exact absurd c_222 (c_lt (b := 0) (by decide) hlk.1.1)
                                      · refine lv_bipush (v := 16) hx hb dL_isWhole_225 (by decide) ?_
                                        refine lv_iload hx hb dL_isWhole_227 (lv_at hl 2 rfl) ?_
                                        refine lv_imul hx hb dL_isWhole_229 ?_
                                        refine lv_iload hx hb dL_isWhole_230 (lv_at hl 1 rfl) ?_
                                        refine lv_isub hx hb dL_isWhole_232 ?_
                                        refine k_topi (y := z.2.2.2.2.2.2.2.2.1 k2) (e_back _ _) ?_
                                        refine lv_ldc hx hb hown (hts (Cond.constant RL 107 (65536)) (List.mem_of_getElem? (i := 1) rfl)) dL_isWhole_233 ?_
                                        refine lv_icmp_ge (tgt := 242) hx hb dL_isWhole_235 (by decide) (fun c_235 => ?_) (fun c_235 => ?_)
                                        · exact absurd c_235 (c_nge (b := 65536) (by decide) (by omega))
                                        · refine lv_iconst (v := 1) hx hb dL_isWhole_238 (by decide) ?_
                                          refine lv_goto (tgt := 243) hx hb dL_isWhole_239 (by decide) ?_
                                          refine lv_istore (lv' := [(5, .int 1), (2, .int ((errS z.2.2.2.2.2.2.2.2.1 z.2.2.2.2.2.2.2.2.2.2 k2) + (16 * z.2.2.2.2.2.2.2.2.2.2 k2 - z.2.2.2.2.2.2.2.2.1 k2))), (8, .int (16 * z.2.2.2.2.2.2.2.2.2.2 k2 - z.2.2.2.2.2.2.2.2.1 k2)), (7, .int (z.2.2.2.2.2.2.2.2.2.2 k2)), (6, .int (nI k2)), (4, .int (nI (lmS (sumB z.2.2.2.2.2.2.2.1 z.2.2.2.2.2.1) 4095 1))), (3, .int (nI z.2.2.2.2.2.1)), (1, .int (nI (sumN z.2.2.2.2.2.2.2.1 z.2.2.2.2.2.1))), (0, .ref x0)]) hx hb dL_isWhole_243 hl (by decide) rfl (fun ls hl => ?_)
                                          refine lv_iinc (v := nI (k2 + 1)) (lv' := [(6, .int (nI (k2 + 1))), (5, .int 1), (2, .int ((errS z.2.2.2.2.2.2.2.2.1 z.2.2.2.2.2.2.2.2.2.2 k2) + (16 * z.2.2.2.2.2.2.2.2.2.2 k2 - z.2.2.2.2.2.2.2.2.1 k2))), (8, .int (16 * z.2.2.2.2.2.2.2.2.2.2 k2 - z.2.2.2.2.2.2.2.2.1 k2)), (7, .int (z.2.2.2.2.2.2.2.2.2.2 k2)), (4, .int (nI (lmS (sumB z.2.2.2.2.2.2.2.1 z.2.2.2.2.2.1) 4095 1))), (3, .int (nI z.2.2.2.2.2.1)), (1, .int (nI (sumN z.2.2.2.2.2.2.2.1 z.2.2.2.2.2.1))), (0, .ref x0)]) hx hb dL_isWhole_245 hl (k := 4) rfl (by exact k_inc k2) (by decide) rfl (fun ls hl => ?_)
                                          refine lv_goto (tgt := 121) hx hb dL_isWhole_248 (by decide) ?_
                                          exact ih121 (k2 + 1) (by first | assumption | omega) (by omega) _ _ hP hD hS _ (lv_sub hl [0, 1, 5, 6, 2, 7, 8] rfl)
                                · refine lv_iload hx hb dL_isWhole_186 (lv_at hl 2 rfl) ?_
                                  refine lv_if_ne (tgt := 195) hx hb dL_isWhole_188 (by decide) (fun c_188 => ?_) (fun c_188 => ?_)
                                  · refine lv_iconst (v := 0) hx hb dL_isWhole_195 (by decide) ?_
                                    refine lv_aload_n hx hb dL_isWhole_196 rfl (lv_at hl 8 rfl) ?_
                                    refine lv_iconst (v := 2) hx hb dL_isWhole_197 (by decide) ?_
                                    refine lv_iload hx hb dL_isWhole_198 (lv_at hl 3 rfl) ?_
                                    refine lq_s (B0 := (LB cI cC cJ cZ cQ x0 a0 a1 a2 a3 a4 a5 a6 v0 v1 t0 t1 h0 u0 u1 pa rg z nx cnt S (fillG z.2.2.2.2.2.2.2.1 z.2.2.2.2.2.1) hv hk hc)) (B1 := (LB cI cC cJ cZ cQ x0 a0 a1 a2 a3 a4 a5 a6 v0 v1 t0 t1 h0 u0 u1 pa rg z nx cnt S (fillG z.2.2.2.2.2.2.2.1 z.2.2.2.2.2.1) hv hk hc)) (U := [0, 1, 2, 3, 4, 5, 6, 7]) (isC := [0, 1]) (isR := [2, 3, 4, 5, 6, 7]) (As := [.ref x0, .int 2, .int (nI k2)]) (rest := [.int 0]) ⟨hx, hb, hml, hown, hts⟩ (kL_kept_ok l D H.size cI cC cJ cZ cQ x0 v0 t0 h0 u0 a0 a1 a2 a3 a4 a5 a6 z k2 (by first | assumption | omega) (by first | assumption | omega)) (vx_cwSW 3 hts gL_isWhole_L_ask rfl rfl rfl (by decide +kernel) ⟨Nat.le_of_ble_eq_true rfl, Nat.le_of_ble_eq_true rfl⟩) hP hD hK hS hA hN (by decide) rfl rfl rfl rfl hl.1 rfl (Nat.le_of_ble_eq_true rfl) dL_isWhole_200 ⟨Nat.le_of_ble_eq_true rfl, Nat.le_of_ble_eq_true rfl⟩ (fun H locs hP hD hS => ?_)
                                    refine lv_if_ne (tgt := 210) hx hb dL_isWhole_203 (by decide) (fun c_203 => ?_) (fun c_203 => ?_)
                                    · refine lv_iconst (v := 0) hx hb dL_isWhole_210 (by decide) ?_
                                      refine lv_icmp_ne (tgt := 242) hx hb dL_isWhole_211 (by decide) (fun h => absurd h (by decide)) (fun _ => ?_)
                                      refine lv_bipush (v := 16) hx hb dL_isWhole_214 (by decide) ?_
                                      refine lv_iload hx hb dL_isWhole_216 (lv_at hl 2 rfl) ?_
                                      refine lv_imul hx hb dL_isWhole_218 ?_
                                      refine lv_iload hx hb dL_isWhole_219 (lv_at hl 1 rfl) ?_
                                      refine lv_isub hx hb dL_isWhole_221 ?_
                                      refine k_topi (y := z.2.2.2.2.2.2.2.2.1 k2) (e_back _ _) ?_
                                      refine lv_if_lt (tgt := 242) hx hb dL_isWhole_222 (by decide) (fun c_222 => ?_) (fun c_222 => ?_)
                                      · exact absurd c_222 (c_lt (b := 0) (by decide) hlk.1.1)
                                      · refine lv_bipush (v := 16) hx hb dL_isWhole_225 (by decide) ?_
                                        refine lv_iload hx hb dL_isWhole_227 (lv_at hl 2 rfl) ?_
                                        refine lv_imul hx hb dL_isWhole_229 ?_
                                        refine lv_iload hx hb dL_isWhole_230 (lv_at hl 1 rfl) ?_
                                        refine lv_isub hx hb dL_isWhole_232 ?_
                                        refine k_topi (y := z.2.2.2.2.2.2.2.2.1 k2) (e_back _ _) ?_
                                        refine lv_ldc hx hb hown (hts (Cond.constant RL 107 (65536)) (List.mem_of_getElem? (i := 1) rfl)) dL_isWhole_233 ?_
                                        refine lv_icmp_ge (tgt := 242) hx hb dL_isWhole_235 (by decide) (fun c_235 => ?_) (fun c_235 => ?_)
                                        · exact absurd c_235 (c_nge (b := 65536) (by decide) (by omega))
                                        · refine lv_iconst (v := 1) hx hb dL_isWhole_238 (by decide) ?_
                                          refine lv_goto (tgt := 243) hx hb dL_isWhole_239 (by decide) ?_
                                          refine lv_istore (lv' := [(5, .int 1), (2, .int ((errS z.2.2.2.2.2.2.2.2.1 z.2.2.2.2.2.2.2.2.2.2 k2) + (16 * z.2.2.2.2.2.2.2.2.2.2 k2 - z.2.2.2.2.2.2.2.2.1 k2))), (8, .int (16 * z.2.2.2.2.2.2.2.2.2.2 k2 - z.2.2.2.2.2.2.2.2.1 k2)), (7, .int (z.2.2.2.2.2.2.2.2.2.2 k2)), (6, .int (nI k2)), (4, .int (nI (lmS (sumB z.2.2.2.2.2.2.2.1 z.2.2.2.2.2.1) 4095 1))), (3, .int (nI z.2.2.2.2.2.1)), (1, .int (nI (sumN z.2.2.2.2.2.2.2.1 z.2.2.2.2.2.1))), (0, .ref x0)]) hx hb dL_isWhole_243 hl (by decide) rfl (fun ls hl => ?_)
                                          refine lv_iinc (v := nI (k2 + 1)) (lv' := [(6, .int (nI (k2 + 1))), (5, .int 1), (2, .int ((errS z.2.2.2.2.2.2.2.2.1 z.2.2.2.2.2.2.2.2.2.2 k2) + (16 * z.2.2.2.2.2.2.2.2.2.2 k2 - z.2.2.2.2.2.2.2.2.1 k2))), (8, .int (16 * z.2.2.2.2.2.2.2.2.2.2 k2 - z.2.2.2.2.2.2.2.2.1 k2)), (7, .int (z.2.2.2.2.2.2.2.2.2.2 k2)), (4, .int (nI (lmS (sumB z.2.2.2.2.2.2.2.1 z.2.2.2.2.2.1) 4095 1))), (3, .int (nI z.2.2.2.2.2.1)), (1, .int (nI (sumN z.2.2.2.2.2.2.2.1 z.2.2.2.2.2.1))), (0, .ref x0)]) hx hb dL_isWhole_245 hl (k := 4) rfl (by exact k_inc k2) (by decide) rfl (fun ls hl => ?_)
                                          refine lv_goto (tgt := 121) hx hb dL_isWhole_248 (by decide) ?_
                                          exact ih121 (k2 + 1) (by first | assumption | omega) (by omega) _ _ hP hD hS _ (lv_sub hl [0, 1, 5, 6, 2, 7, 8] rfl)
                                    · exact absurd c_203 hb2.2
                                  · exact absurd c_188 hb2.1
                    exact J121 (z.2.2.2.2.2.2.1 - 0 + 1) 0 (by first | assumption | omega) (Nat.lt_succ_self _) _ _ hP hD hS _ (lv_sub hl [0, 1, 2, 3, 4, 5, 6] rfl)
                  · have c_70 : ¬ z.2.2.2.2.2.1 ≤ k := fun h => c_70 ((nI_leI (a := z.2.2.2.2.2.1) (b := k) (by omega) (by omega)).mpr h)
                    refine lv_iload hx hb dL_isWhole_73 (lv_at hl 1 rfl) ?_
                    refine lv_if_eq (tgt := 118) hx hb dL_isWhole_75 (by decide) (fun h => absurd h (by decide)) (fun _ => ?_)
                    have hfk := hff k (by omega)
                    refine lv_aload_n hx hb dL_isWhole_78 rfl (lv_at hl 6 rfl) ?_
                    refine lv_iconst (v := 0) hx hb dL_isWhole_79 (by decide) ?_
                    refine lv_iload hx hb dL_isWhole_80 (lv_at hl 0 rfl) ?_
                    refine lq_s (B0 := (LB cI cC cJ cZ cQ x0 a0 a1 a2 a3 a4 a5 a6 v0 v1 t0 t1 h0 u0 u1 pa rg z nx cnt S (fillG z.2.2.2.2.2.2.2.1 z.2.2.2.2.2.1) hv hk hc)) (B1 := (LB cI cC cJ cZ cQ x0 a0 a1 a2 a3 a4 a5 a6 v0 v1 t0 t1 h0 u0 u1 pa rg z nx cnt S (fillG z.2.2.2.2.2.2.2.1 z.2.2.2.2.2.1) hv hk hc)) (U := [0, 1, 2, 3, 4, 5, 6, 7]) (isC := [0, 1]) (isR := [2, 3, 4, 5, 6, 7]) (As := [.ref x0, .int 0, .int (nI k)]) (rest := []) ⟨hx, hb, hml, hown, hts⟩ (kL_weight_ok l D H.size cI cC cJ cZ cQ x0 v0 t0 h0 u0 a0 a1 a2 a3 a4 a5 a6 z k (by first | assumption | omega) (by first | assumption | omega)) (vx_cwSW 3 hts gL_isWhole_L_ask rfl rfl rfl (by decide +kernel) ⟨Nat.le_of_ble_eq_true rfl, Nat.le_of_ble_eq_true rfl⟩) hP hD hK hS hA hN (by decide) rfl rfl rfl rfl hl.1 rfl (Nat.le_of_ble_eq_true rfl) dL_isWhole_82 ⟨Nat.le_of_ble_eq_true rfl, Nat.le_of_ble_eq_true rfl⟩ (fun H locs hP hD hS => ?_)
                    refine lv_istore (lv' := [(7, .int (z.2.2.2.2.2.2.2.1 k)), (6, .int (nI k)), (5, .int 1), (4, .int (nI (lmS (sumB z.2.2.2.2.2.2.2.1 z.2.2.2.2.2.1) 4095 1))), (3, .int (nI z.2.2.2.2.2.1)), (2, .int 0), (1, .int (nI (sumN z.2.2.2.2.2.2.2.1 k))), (0, .ref x0)]) hx hb dL_isWhole_85 hl (by decide) rfl (fun ls hl => ?_)
                    refine lv_iload_n hx hb dL_isWhole_87 rfl (lv_at hl 6 rfl) ?_
                    refine lv_iload hx hb dL_isWhole_88 (lv_at hl 0 rfl) ?_
                    refine lv_iadd hx hb dL_isWhole_90 ?_
                    refine k_topi (y := nI (sumN z.2.2.2.2.2.2.2.1 (k + 1))) (sumN_st hfk.1) ?_
                    refine lv_istore_n (lv' := [(1, .int (nI (sumN z.2.2.2.2.2.2.2.1 (k + 1)))), (7, .int (z.2.2.2.2.2.2.2.1 k)), (6, .int (nI k)), (5, .int 1), (4, .int (nI (lmS (sumB z.2.2.2.2.2.2.2.1 z.2.2.2.2.2.1) 4095 1))), (3, .int (nI z.2.2.2.2.2.1)), (2, .int 0), (0, .ref x0)]) hx hb dL_isWhole_91 rfl hl (by decide) rfl (fun ls hl => ?_)
                    refine lv_iload hx hb dL_isWhole_92 (lv_at hl 1 rfl) ?_
                    refine lv_if_le (tgt := 109) hx hb dL_isWhole_94 (by decide) (fun c_94 => ?_) (fun c_94 => ?_)
                    · exact absurd c_94 (c_nle (b := 0) (by decide) (by omega))
                    · refine lv_iload hx hb dL_isWhole_97 (lv_at hl 1 rfl) ?_
                      refine lv_sipush (v := 2048) hx hb dL_isWhole_99 (by decide) ?_
                      refine lv_icmp_gt (tgt := 109) hx hb dL_isWhole_102 (by decide) (fun c_102 => ?_) (fun c_102 => ?_)
                      · exact absurd c_102 (c_ngt (b := 2048) (by decide) hfk.2)
                      · refine lv_iconst (v := 1) hx hb dL_isWhole_105 (by decide) ?_
                        refine lv_goto (tgt := 110) hx hb dL_isWhole_106 (by decide) ?_
                        refine lv_istore (lv' := [(5, .int 1), (1, .int (nI (sumN z.2.2.2.2.2.2.2.1 (k + 1)))), (7, .int (z.2.2.2.2.2.2.2.1 k)), (6, .int (nI k)), (4, .int (nI (lmS (sumB z.2.2.2.2.2.2.2.1 z.2.2.2.2.2.1) 4095 1))), (3, .int (nI z.2.2.2.2.2.1)), (2, .int 0), (0, .ref x0)]) hx hb dL_isWhole_110 hl (by decide) rfl (fun ls hl => ?_)
                        refine lv_iinc (v := nI (k + 1)) (lv' := [(6, .int (nI (k + 1))), (5, .int 1), (1, .int (nI (sumN z.2.2.2.2.2.2.2.1 (k + 1)))), (7, .int (z.2.2.2.2.2.2.2.1 k)), (4, .int (nI (lmS (sumB z.2.2.2.2.2.2.2.1 z.2.2.2.2.2.1) 4095 1))), (3, .int (nI z.2.2.2.2.2.1)), (2, .int 0), (0, .ref x0)]) hx hb dL_isWhole_112 hl (k := 3) rfl (by exact k_inc k) (by decide) rfl (fun ls hl => ?_)
                        refine lv_goto (tgt := 67) hx hb dL_isWhole_115 (by decide) ?_
                        exact ih67 (k + 1) (by first | assumption | omega) (by omega) _ _ hP hD hS _ (lv_sub hl [0, 1, 4, 5, 6, 2, 7] rfl)
              exact J67 (z.2.2.2.2.2.1 - 0 + 1) 0 (by first | assumption | omega) (Nat.lt_succ_self _) _ _ hP hD hS _ (lv_sub hl [0, 1, 2, 3, 4, 5, 6] rfl)
