/-! contracts: means, digest, what the model refuses, sorting; laid by program (wip/whole/gen) -/
theorem inX7_meanError_7 : ∀ w ∈ wsX70, w ∈ wsX7_meanError := fun _ h => List.mem_cons_of_mem _ (List.mem_append_left _ (List.mem_append_left _ (List.mem_append_right _ h)))
theorem inX7_meanError_2 : ∀ w ∈ wsX20, w ∈ wsX7_meanError := fun _ h => List.mem_cons_of_mem _ (List.mem_append_left _ (List.mem_append_right _ h))
theorem inX7_meanError_0 : ∀ w ∈ wsX00, w ∈ wsX7_meanError := fun _ h => List.mem_cons_of_mem _ (List.mem_append_right _ h)
abbrev rmkX7_meanError : Room := { frames := 2, cells := 0, slots := 0, locals := 43 }
set_option maxHeartbeats 4000000 in
set_option maxRecDepth 100000 in
theorem kX7_meanError (l : Launch) (D : va_G) (sz : Nat) (cI : ClassId) (cC : ClassId) (cJ : ClassId) (cZ : ClassId) (cQ : ClassId) (x0 : Nat) (v0 : Nat) (t0 : Nat) (h0 : Nat) (u0 : Nat) (a0 : Nat) (a1 : Nat) (a2 : Nat) (a3 : Nat) (a4 : Nat) (a5 : Nat) (a6 : Nat) (z : StV) (hlc : z.2.2.2.2.2.2.1 ≤ 8) : MetD lw_cs l yX7_meanError wsX7_meanError rmkX7_meanError (va_Pc [.ref x0] (kPre D sz [(x0, .inr (7, [.ref a0, .ref v0, .ref t0, .ref h0, .ref u0])), (a0, .inr (2, [.int z.1, .int z.2.1, .int z.2.2.1, .int z.2.2.2.1, .int z.2.2.2.2.1, .ref a1, .ref a3])), (a1, .inr (6, [.ref a2, .int (nI z.2.2.2.2.2.1)])), (a2, .inl (cI, 12, .inl z.2.2.2.2.2.2.2.1)), (a3, .inr (0, [.ref a4, .ref a5, .ref a6, .int (nI z.2.2.2.2.2.2.1)])), (a4, .inl (cI, 8, .inl z.2.2.2.2.2.2.2.2.1)), (a5, .inl (cI, 8, .inl z.2.2.2.2.2.2.2.2.2.1)), (a6, .inl (cI, 8, .inl z.2.2.2.2.2.2.2.2.2.2))] (kT cI cC cJ cZ cQ))) (kQd D (fun r => alike64 r (mErr z.2.2.2.2.2.2.1 (errS z.2.2.2.2.2.2.2.2.1 z.2.2.2.2.2.2.2.2.2.2 z.2.2.2.2.2.2.1)) = true) [(x0, .inr (7, [.ref a0, .ref v0, .ref t0, .ref h0, .ref u0])), (a0, .inr (2, [.int z.1, .int z.2.1, .int z.2.2.1, .int z.2.2.2.1, .int z.2.2.2.2.1, .ref a1, .ref a3])), (a1, .inr (6, [.ref a2, .int (nI z.2.2.2.2.2.1)])), (a2, .inl (cI, 12, .inl z.2.2.2.2.2.2.2.1)), (a3, .inr (0, [.ref a4, .ref a5, .ref a6, .int (nI z.2.2.2.2.2.2.1)])), (a4, .inl (cI, 8, .inl z.2.2.2.2.2.2.2.2.1)), (a5, .inl (cI, 8, .inl z.2.2.2.2.2.2.2.2.2.1)), (a6, .inl (cI, 8, .inl z.2.2.2.2.2.2.2.2.2.2))] (va_A [(x0, .inr (7, [.ref a0, .ref v0, .ref t0, .ref h0, .ref u0])), (a0, .inr (2, [.int z.1, .int z.2.1, .int z.2.2.1, .int z.2.2.2.1, .int z.2.2.2.2.1, .ref a1, .ref a3])), (a1, .inr (6, [.ref a2, .int (nI z.2.2.2.2.2.1)])), (a2, .inl (cI, 12, .inl z.2.2.2.2.2.2.2.1)), (a3, .inr (0, [.ref a4, .ref a5, .ref a6, .int (nI z.2.2.2.2.2.2.1)])), (a4, .inl (cI, 8, .inl z.2.2.2.2.2.2.2.2.1)), (a5, .inl (cI, 8, .inl z.2.2.2.2.2.2.2.2.2.1)), (a6, .inl (cI, 8, .inl z.2.2.2.2.2.2.2.2.2.2))] sz)) 0 0 (va_A [(x0, .inr (7, [.ref a0, .ref v0, .ref t0, .ref h0, .ref u0])), (a0, .inr (2, [.int z.1, .int z.2.1, .int z.2.2.1, .int z.2.2.2.1, .int z.2.2.2.2.1, .ref a1, .ref a3])), (a1, .inr (6, [.ref a2, .int (nI z.2.2.2.2.2.1)])), (a2, .inl (cI, 12, .inl z.2.2.2.2.2.2.2.1)), (a3, .inr (0, [.ref a4, .ref a5, .ref a6, .int (nI z.2.2.2.2.2.2.1)])), (a4, .inl (cI, 8, .inl z.2.2.2.2.2.2.2.2.1)), (a5, .inl (cI, 8, .inl z.2.2.2.2.2.2.2.2.2.1)), (a6, .inl (cI, 8, .inl z.2.2.2.2.2.2.2.2.2.2))] sz) := by
  refine k_metD (Qf := kQd D (fun r => alike64 r (mErr z.2.2.2.2.2.2.1 (errS z.2.2.2.2.2.2.2.2.1 z.2.2.2.2.2.2.2.2.2.2 z.2.2.2.2.2.2.1)) = true) [(x0, .inr (7, [.ref a0, .ref v0, .ref t0, .ref h0, .ref u0])), (a0, .inr (2, [.int z.1, .int z.2.1, .int z.2.2.1, .int z.2.2.2.1, .int z.2.2.2.2.1, .ref a1, .ref a3])), (a1, .inr (6, [.ref a2, .int (nI z.2.2.2.2.2.1)])), (a2, .inl (cI, 12, .inl z.2.2.2.2.2.2.2.1)), (a3, .inr (0, [.ref a4, .ref a5, .ref a6, .int (nI z.2.2.2.2.2.2.1)])), (a4, .inl (cI, 8, .inl z.2.2.2.2.2.2.2.2.1)), (a5, .inl (cI, 8, .inl z.2.2.2.2.2.2.2.2.2.1)), (a6, .inl (cI, 8, .inl z.2.2.2.2.2.2.2.2.2.2))]) (cc := cX7_meanError) (maxL := 1) (ret := (some .double)) (own := RX7) (by decide) rfl (Nat.le_of_ble_eq_true rfl) rfl ?_
  intro p e s s1 m args below meth c ls A H locs hx hb hr hts hown hlocks hml hin hsz hP hK hD hA hS hN hs1 hd0 hl
  have hl : lv_has ls 1 [(0, .ref x0)] := hl
  refine lv_aload_n hx hb dX7_meanError_0 rfl (lv_at hl 0 rfl) ?_
  refine va_get (D := D) (ci := 7) (v := .ref a0) (C := RX7) (T := TX7) (N := 5) hx hb hts inX7_meanError_7 hown hK hP 0 rfl rfl 0 (by decide) (hts (.fieldLink RX7 10 "WeighingConverter" "state" "LWeighingConverter$State;") (List.mem_of_getElem? (i := 1) rfl)) (fun _ h9 => h9) rfl dX7_meanError_1 ?_
  refine va_get (D := D) (ci := 2) (v := .ref a3) (C := RX2) (T := TX2) (N := 7) hx hb hts inX7_meanError_2 hown hK hP 1 rfl rfl 6 (by decide) (hts (.fieldLink RX7 128 "WeighingConverter$State" "log" "LWeighingConverter$Log;") (List.mem_of_getElem? (i := 2) rfl)) (fun _ h9 => h9) rfl dX7_meanError_4 ?_
  refine va_get (D := D) (ci := 0) (v := .int (nI z.2.2.2.2.2.2.1)) (C := RX0) (T := TX0) (N := 4) hx hb hts inX7_meanError_0 hown hK hP 4 rfl rfl 3 (by decide) (hts (.fieldLink RX7 143 "WeighingConverter$Log" "count" "I") (List.mem_of_getElem? (i := 3) rfl)) (fun _ h9 => h9) rfl dX7_meanError_7 ?_
  refine lv_if_ne (tgt := 15) hx hb dX7_meanError_10 (by decide) (fun c_10 => ?_) (fun c_10 => ?_)
  · have c_10 : ¬ z.2.2.2.2.2.2.1 = 0 := fun h => c_10 ((nI_eq (a := z.2.2.2.2.2.2.1) (b := 0) (by omega) (by omega)).mpr h)
    refine lv_aload_n hx hb dX7_meanError_15 rfl (lv_at hl 0 rfl) ?_
    refine va_get (D := D) (ci := 7) (v := .ref a0) (C := RX7) (T := TX7) (N := 5) hx hb hts inX7_meanError_7 hown hK hP 0 rfl rfl 0 (by decide) (hts (.fieldLink RX7 10 "WeighingConverter" "state" "LWeighingConverter$State;") (List.mem_of_getElem? (i := 1) rfl)) (fun _ h9 => h9) rfl dX7_meanError_16 ?_
    refine va_get (D := D) (ci := 2) (v := .ref a3) (C := RX2) (T := TX2) (N := 7) hx hb hts inX7_meanError_2 hown hK hP 1 rfl rfl 6 (by decide) (hts (.fieldLink RX7 128 "WeighingConverter$State" "log" "LWeighingConverter$Log;") (List.mem_of_getElem? (i := 2) rfl)) (fun _ h9 => h9) rfl dX7_meanError_19 ?_
    refine kv_i (As := []) (rest := []) (wr := [(x0, .inr (7, [.ref a0, .ref v0, .ref t0, .ref h0, .ref u0])), (a0, .inr (2, [.int z.1, .int z.2.1, .int z.2.2.1, .int z.2.2.2.1, .int z.2.2.2.2.1, .ref a1, .ref a3])), (a1, .inr (6, [.ref a2, .int (nI z.2.2.2.2.2.1)])), (a2, .inl (cI, 12, .inl z.2.2.2.2.2.2.2.1))]) ⟨hx, hb, hml, hown, hts⟩ (kX0_errorSum l D H.size cI cC cJ cZ cQ a3 a4 a5 a6 z.2.2.2.2.2.2.1 z.2.2.2.2.2.2.2.2.1 z.2.2.2.2.2.2.2.2.2.1 z.2.2.2.2.2.2.2.2.2.2 (by first | assumption | omega)) (cwV 0 hts gX7_meanError_X0_errorSum rfl rfl rfl (by decide +kernel) ⟨Nat.le_of_ble_eq_true rfl, Nat.le_of_ble_eq_true rfl⟩) hP hD hK hS hA hN [4, 5, 6, 7] [0, 1, 2, 3] rfl rfl (by decide) (by decide) (by decide) 4 0 rfl rfl rfl rfl hl.1 rfl (Nat.le_of_ble_eq_true rfl) dX7_meanError_22 ⟨Nat.zero_le _, Nat.zero_le _⟩ (fun H locs hP hD hS => ?_)
    have hP : va_P D vwCl [(x0, .inr (7, [.ref a0, .ref v0, .ref t0, .ref h0, .ref u0])), (a0, .inr (2, [.int z.1, .int z.2.1, .int z.2.2.1, .int z.2.2.2.1, .int z.2.2.2.2.1, .ref a1, .ref a3])), (a1, .inr (6, [.ref a2, .int (nI z.2.2.2.2.2.1)])), (a2, .inl (cI, 12, .inl z.2.2.2.2.2.2.2.1)), (a3, .inr (0, [.ref a4, .ref a5, .ref a6, .int (nI z.2.2.2.2.2.2.1)])), (a4, .inl (cI, 8, .inl z.2.2.2.2.2.2.2.2.1)), (a5, .inl (cI, 8, .inl z.2.2.2.2.2.2.2.2.2.1)), (a6, .inl (cI, 8, .inl z.2.2.2.2.2.2.2.2.2.2))] H := hP
    have hD : va_D A [(x0, .inr (7, [.ref a0, .ref v0, .ref t0, .ref h0, .ref u0])), (a0, .inr (2, [.int z.1, .int z.2.1, .int z.2.2.1, .int z.2.2.2.1, .int z.2.2.2.2.1, .ref a1, .ref a3])), (a1, .inr (6, [.ref a2, .int (nI z.2.2.2.2.2.1)])), (a2, .inl (cI, 12, .inl z.2.2.2.2.2.2.2.1)), (a3, .inr (0, [.ref a4, .ref a5, .ref a6, .int (nI z.2.2.2.2.2.2.1)])), (a4, .inl (cI, 8, .inl z.2.2.2.2.2.2.2.2.1)), (a5, .inl (cI, 8, .inl z.2.2.2.2.2.2.2.2.2.1)), (a6, .inl (cI, 8, .inl z.2.2.2.2.2.2.2.2.2.2))] := hD
    refine lv_i2d hx hb dX7_meanError_25 ?_
    refine lv_aload_n hx hb dX7_meanError_26 rfl (lv_at hl 0 rfl) ?_
    refine va_get (D := D) (ci := 7) (v := .ref a0) (C := RX7) (T := TX7) (N := 5) hx hb hts inX7_meanError_7 hown hK hP 0 rfl rfl 0 (by decide) (hts (.fieldLink RX7 10 "WeighingConverter" "state" "LWeighingConverter$State;") (List.mem_of_getElem? (i := 1) rfl)) (fun _ h9 => h9) rfl dX7_meanError_27 ?_
    refine va_get (D := D) (ci := 2) (v := .ref a3) (C := RX2) (T := TX2) (N := 7) hx hb hts inX7_meanError_2 hown hK hP 1 rfl rfl 6 (by decide) (hts (.fieldLink RX7 128 "WeighingConverter$State" "log" "LWeighingConverter$Log;") (List.mem_of_getElem? (i := 2) rfl)) (fun _ h9 => h9) rfl dX7_meanError_30 ?_
    refine va_get (D := D) (ci := 0) (v := .int (nI z.2.2.2.2.2.2.1)) (C := RX0) (T := TX0) (N := 4) hx hb hts inX7_meanError_0 hown hK hP 4 rfl rfl 3 (by decide) (hts (.fieldLink RX7 143 "WeighingConverter$Log" "count" "I") (List.mem_of_getElem? (i := 3) rfl)) (fun _ h9 => h9) rfl dX7_meanError_33 ?_
    refine lv_i2d hx hb dX7_meanError_36 ?_
    subst hs1
    refine lv_ddiv_any hd0 lw_bits hx hb dX7_meanError_37 (fun r9 d1 hal hd1 => ?_)
    have hP9 := hP.sub (ws' := [(x0, .inr (7, [.ref a0, .ref v0, .ref t0, .ref h0, .ref u0])), (a0, .inr (2, [.int z.1, .int z.2.1, .int z.2.2.1, .int z.2.2.2.1, .int z.2.2.2.2.1, .ref a1, .ref a3])), (a1, .inr (6, [.ref a2, .int (nI z.2.2.2.2.2.1)])), (a2, .inl (cI, 12, .inl z.2.2.2.2.2.2.2.1)), (a3, .inr (0, [.ref a4, .ref a5, .ref a6, .int (nI z.2.2.2.2.2.2.1)])), (a4, .inl (cI, 8, .inl z.2.2.2.2.2.2.2.2.1)), (a5, .inl (cI, 8, .inl z.2.2.2.2.2.2.2.2.2.1)), (a6, .inl (cI, 8, .inl z.2.2.2.2.2.2.2.2.2.2))]) [0, 1, 2, 3, 4, 5, 6, 7] rfl
    have hD9 := hD.sub (ws' := [(x0, .inr (7, [.ref a0, .ref v0, .ref t0, .ref h0, .ref u0])), (a0, .inr (2, [.int z.1, .int z.2.1, .int z.2.2.1, .int z.2.2.2.1, .int z.2.2.2.2.1, .ref a1, .ref a3])), (a1, .inr (6, [.ref a2, .int (nI z.2.2.2.2.2.1)])), (a2, .inl (cI, 12, .inl z.2.2.2.2.2.2.2.1)), (a3, .inr (0, [.ref a4, .ref a5, .ref a6, .int (nI z.2.2.2.2.2.2.1)])), (a4, .inl (cI, 8, .inl z.2.2.2.2.2.2.2.2.1)), (a5, .inl (cI, 8, .inl z.2.2.2.2.2.2.2.2.2.1)), (a6, .inl (cI, 8, .inl z.2.2.2.2.2.2.2.2.2.2))]) [0, 1, 2, 3, 4, 5, 6, 7] (by decide) rfl
    refine W.endD hd1 ?_
    exact kr_d (v := r9) hx hb hr hlocks hP9 hD9 hS (mErr_1 c_10 hal) dX7_meanError_38
  · have c_10 : z.2.2.2.2.2.2.1 = 0 := (nI_eq (a := z.2.2.2.2.2.2.1) (b := 0) (by omega) (by omega)).mp c_10
    refine lv_dconst0 hx hb dX7_meanError_13 ?_
    have hP9 := hP.sub (ws' := [(x0, .inr (7, [.ref a0, .ref v0, .ref t0, .ref h0, .ref u0])), (a0, .inr (2, [.int z.1, .int z.2.1, .int z.2.2.1, .int z.2.2.2.1, .int z.2.2.2.2.1, .ref a1, .ref a3])), (a1, .inr (6, [.ref a2, .int (nI z.2.2.2.2.2.1)])), (a2, .inl (cI, 12, .inl z.2.2.2.2.2.2.2.1)), (a3, .inr (0, [.ref a4, .ref a5, .ref a6, .int (nI z.2.2.2.2.2.2.1)])), (a4, .inl (cI, 8, .inl z.2.2.2.2.2.2.2.2.1)), (a5, .inl (cI, 8, .inl z.2.2.2.2.2.2.2.2.2.1)), (a6, .inl (cI, 8, .inl z.2.2.2.2.2.2.2.2.2.2))]) [0, 1, 2, 3, 4, 5, 6, 7] rfl
    have hD9 := hD.sub (ws' := [(x0, .inr (7, [.ref a0, .ref v0, .ref t0, .ref h0, .ref u0])), (a0, .inr (2, [.int z.1, .int z.2.1, .int z.2.2.1, .int z.2.2.2.1, .int z.2.2.2.2.1, .ref a1, .ref a3])), (a1, .inr (6, [.ref a2, .int (nI z.2.2.2.2.2.1)])), (a2, .inl (cI, 12, .inl z.2.2.2.2.2.2.2.1)), (a3, .inr (0, [.ref a4, .ref a5, .ref a6, .int (nI z.2.2.2.2.2.2.1)])), (a4, .inl (cI, 8, .inl z.2.2.2.2.2.2.2.2.1)), (a5, .inl (cI, 8, .inl z.2.2.2.2.2.2.2.2.2.1)), (a6, .inl (cI, 8, .inl z.2.2.2.2.2.2.2.2.2.2))]) [0, 1, 2, 3, 4, 5, 6, 7] (by decide) rfl
    subst hs1
    refine W.endD hd0 ?_
    exact kr_d (v := FP.dconst0) hx hb hr hlocks hP9 hD9 hS (mErr_0 (by omega)) dX7_meanError_14

theorem inX8_meanError_8 : ∀ w ∈ wsX80, w ∈ wsX8_meanError := fun _ h => List.mem_cons_of_mem _ (List.mem_append_right _ h)
abbrev rmkX8_meanError : Room := { frames := 1, cells := 0, slots := 0, locals := 21 }
set_option maxHeartbeats 4000000 in
set_option maxRecDepth 100000 in
theorem kX8_meanError (l : Launch) (D : va_G) (sz : Nat) (cI : ClassId) (cC : ClassId) (cJ : ClassId) (cZ : ClassId) (cQ : ClassId) (m0 : Nat) (m1 : Nat) (m2 : Nat) (m3 : Nat) (m4 : Nat) (m5 : Nat) (m6 : Nat) (sm : Nat) (ln : Nat) (sp : Nat) (tm : Nat) (th : Int32) (lf : Int32) (kp : Int32) (z : StV) (hlc : z.2.2.2.2.2.2.1 ≤ 8) : MetD lw_cs l yX8_meanError wsX8_meanError rmkX8_meanError (va_Pc [.ref m0] (kPre D sz [(m0, .inr (8, [.ref m1, .ref m2, .int (nI sm), .ref m3, .int (nI ln), .int th, .ref m4, .int lf, .int kp, .ref m5, .int (nI sp), .ref m6, .int (nI tm)])), (m1, .inl (cI, 43, .inl (zArr z)))] (kT cI cC cJ cZ cQ))) (kQd D (fun r => alike64 r (mErr z.2.2.2.2.2.2.1 (errS z.2.2.2.2.2.2.2.2.1 z.2.2.2.2.2.2.2.2.2.2 z.2.2.2.2.2.2.1)) = true) [(m0, .inr (8, [.ref m1, .ref m2, .int (nI sm), .ref m3, .int (nI ln), .int 0, .ref m4, .int lf, .int kp, .ref m5, .int (nI sp), .ref m6, .int (nI tm)])), (m1, .inl (cI, 43, .inl (zArr z)))] (va_A [(m0, .inr (8, [.ref m1, .ref m2, .int (nI sm), .ref m3, .int (nI ln), .int th, .ref m4, .int lf, .int kp, .ref m5, .int (nI sp), .ref m6, .int (nI tm)])), (m1, .inl (cI, 43, .inl (zArr z)))] sz)) 0 0 (va_A [(m0, .inr (8, [.ref m1, .ref m2, .int (nI sm), .ref m3, .int (nI ln), .int th, .ref m4, .int lf, .int kp, .ref m5, .int (nI sp), .ref m6, .int (nI tm)])), (m1, .inl (cI, 43, .inl (zArr z)))] sz) := by
  refine k_metD (Qf := kQd D (fun r => alike64 r (mErr z.2.2.2.2.2.2.1 (errS z.2.2.2.2.2.2.2.2.1 z.2.2.2.2.2.2.2.2.2.2 z.2.2.2.2.2.2.1)) = true) [(m0, .inr (8, [.ref m1, .ref m2, .int (nI sm), .ref m3, .int (nI ln), .int 0, .ref m4, .int lf, .int kp, .ref m5, .int (nI sp), .ref m6, .int (nI tm)])), (m1, .inl (cI, 43, .inl (zArr z)))]) (cc := cX8_meanError) (maxL := 6) (ret := (some .double)) (own := RX8) (by decide) rfl (Nat.le_of_ble_eq_true rfl) rfl ?_
  intro p e s s1 m args below meth c ls A H locs hx hb hr hts hown hlocks hml hin hsz hP hK hD hA hS hN hs1 hd0 hl
  have hl : lv_has ls 6 [(0, .ref m0)] := hl
  refine lv_aload_n hx hb dX8_meanError_0 rfl (lv_at hl 0 rfl) ?_
  refine lv_iconst (v := 0) hx hb dX8_meanError_1 (by decide) ?_
  refine va_put (D := D) (ci := 8) (v := .int 0) (ty := .int) (C := RX8) (T := TX8) (N := 13) hx hb hts inX8_meanError_8 tyX8 tyX8_ok nmX8 hown hK hP hD hS 0 rfl rfl 5 (by decide) (hts (.fieldLink RX8 29 "WeighingConverterModel" "thrown" "I") (List.mem_of_getElem? (i := 1) rfl)) (fun _ h9 => h9) rfl (by decide +kernel) rfl rfl (Nat.le_of_ble_eq_true rfl) dX8_meanError_2 (fun H locs hP hD hS => ?_)
  have hP : va_P D vwCl [(m0, .inr (8, [.ref m1, .ref m2, .int (nI sm), .ref m3, .int (nI ln), .int 0, .ref m4, .int lf, .int kp, .ref m5, .int (nI sp), .ref m6, .int (nI tm)])), (m1, .inl (cI, 43, .inl (zArr z)))] H := hP
  have hD : va_D A [(m0, .inr (8, [.ref m1, .ref m2, .int (nI sm), .ref m3, .int (nI ln), .int 0, .ref m4, .int lf, .int kp, .ref m5, .int (nI sp), .ref m6, .int (nI tm)])), (m1, .inl (cI, 43, .inl (zArr z)))] := hD
  refine lv_iconst (v := 0) hx hb dX8_meanError_5 (by decide) ?_
  refine lv_istore_n (lv' := [(1, .int 0), (0, .ref m0)]) hx hb dX8_meanError_6 rfl hl (by decide) rfl (fun ls hl => ?_)
  refine lv_iconst (v := 0) hx hb dX8_meanError_7 (by decide) ?_
  refine lv_istore_n (lv' := [(2, .int 0), (1, .int 0), (0, .ref m0)]) hx hb dX8_meanError_8 rfl hl (by decide) rfl (fun ls hl => ?_)
  have J9 : ∀ (fuel : Nat) (k : Nat) (hk : k ≤ z.2.2.2.2.2.2.1) (hm : z.2.2.2.2.2.2.1 - k < fuel) (H : Heap) (locs : List Loc) (hP : va_P D vwCl [(m0, .inr (8, [.ref m1, .ref m2, .int (nI sm), .ref m3, .int (nI ln), .int 0, .ref m4, .int lf, .int kp, .ref m5, .int (nI sp), .ref m6, .int (nI tm)])), (m1, .inl (cI, 43, .inl (zArr z)))] H) (hD : va_D A [(m0, .inr (8, [.ref m1, .ref m2, .int (nI sm), .ref m3, .int (nI ln), .int 0, .ref m4, .int lf, .int kp, .ref m5, .int (nI sp), .ref m6, .int (nI tm)])), (m1, .inl (cI, 43, .inl (zArr z)))]) (hS : va_S A s1.heap H locs) (ls : Array Slot) (hl : lv_has ls 6 [(2, .int (nI k)), (1, .int (errS z.2.2.2.2.2.2.2.2.1 z.2.2.2.2.2.2.2.2.2.2 k)), (0, .ref m0)]), W p l e rmkX8_meanError s1 m args below meth c H locs 0 0 (MQD lw_cs below (kQd D (fun r => alike64 r (mErr z.2.2.2.2.2.2.1 (errS z.2.2.2.2.2.2.2.2.1 z.2.2.2.2.2.2.2.2.2.2 z.2.2.2.2.2.2.1)) = true) [(m0, .inr (8, [.ref m1, .ref m2, .int (nI sm), .ref m3, .int (nI ln), .int 0, .ref m4, .int lf, .int kp, .ref m5, .int (nI sp), .ref m6, .int (nI tm)])), (m1, .inl (cI, 43, .inl (zArr z)))] A) args s 0 0 A) (F0 m 9 ls []) := by
    intro fuel
    induction fuel with
    | zero => intro k hk hm; exact absurd hm (Nat.not_lt_zero _)
    | succ fuel ih9 =>
      intro k hk hm H locs hP hD hS ls hl
      refine lv_iload_n hx hb dX8_meanError_9 rfl (lv_at hl 0 rfl) ?_
      refine lv_aload_n hx hb dX8_meanError_10 rfl (lv_at hl 2 rfl) ?_
      refine va_get (D := D) (ci := 8) (v := .ref m1) (C := RX8) (T := TX8) (N := 13) hx hb hts inX8_meanError_8 hown hK hP 0 rfl rfl 0 (by decide) (hts (.fieldLink RX8 7 "WeighingConverterModel" "z" "[I") (List.mem_of_getElem? (i := 2) rfl)) (fun _ h9 => h9) rfl dX8_meanError_11 ?_
      refine lv_bipush (v := 6) hx hb dX8_meanError_14 (by decide) ?_
      refine k_iald (k := 6) hx hb hK hP 1 0 rfl rfl (by omega) (by decide) dX8_meanError_16 ?_
      refine k_topi (y := nI z.2.2.2.2.2.2.1) rfl ?_
      refine lv_icmp_ge (tgt := 34) hx hb dX8_meanError_17 (by decide) (fun c_17 => ?_) (fun c_17 => ?_)
      · have c_17 : z.2.2.2.2.2.2.1 ≤ k := (nI_leI (a := z.2.2.2.2.2.2.1) (b := k) (by omega) (by omega)).mp c_17
        have hk9 : k = z.2.2.2.2.2.2.1 := by omega
        rw [hk9] at hl
        refine lv_iload_n hx hb dX8_meanError_34 rfl (lv_at hl 1 rfl) ?_
        refine lv_i2d hx hb dX8_meanError_35 ?_
        refine lv_dstore_n (lv' := [(2, .double (FP.i2d (errS z.2.2.2.2.2.2.2.2.1 z.2.2.2.2.2.2.2.2.2.2 z.2.2.2.2.2.2.1))), (1, .int (errS z.2.2.2.2.2.2.2.2.1 z.2.2.2.2.2.2.2.2.2.2 z.2.2.2.2.2.2.1)), (0, .ref m0)]) hx hb dX8_meanError_36 rfl hl (by decide) rfl (fun ls hl => ?_)
        refine lv_aload_n hx hb dX8_meanError_37 rfl (lv_at hl 2 rfl) ?_
        refine va_get (D := D) (ci := 8) (v := .ref m1) (C := RX8) (T := TX8) (N := 13) hx hb hts inX8_meanError_8 hown hK hP 0 rfl rfl 0 (by decide) (hts (.fieldLink RX8 7 "WeighingConverterModel" "z" "[I") (List.mem_of_getElem? (i := 2) rfl)) (fun _ h9 => h9) rfl dX8_meanError_38 ?_
        refine lv_bipush (v := 6) hx hb dX8_meanError_41 (by decide) ?_
        refine k_iald (k := 6) hx hb hK hP 1 0 rfl rfl (by omega) (by decide) dX8_meanError_43 ?_
        refine k_topi (y := nI z.2.2.2.2.2.2.1) rfl ?_
        refine lv_i2d hx hb dX8_meanError_44 ?_
        refine lv_dstore (lv' := [(4, .double (FP.i2d (nI z.2.2.2.2.2.2.1))), (2, .double (FP.i2d (errS z.2.2.2.2.2.2.2.2.1 z.2.2.2.2.2.2.2.2.2.2 z.2.2.2.2.2.2.1))), (1, .int (errS z.2.2.2.2.2.2.2.2.1 z.2.2.2.2.2.2.2.2.2.2 z.2.2.2.2.2.2.1)), (0, .ref m0)]) hx hb dX8_meanError_45 hl (by decide) rfl (fun ls hl => ?_)
        refine lv_aload_n hx hb dX8_meanError_47 rfl (lv_at hl 3 rfl) ?_
        refine va_get (D := D) (ci := 8) (v := .ref m1) (C := RX8) (T := TX8) (N := 13) hx hb hts inX8_meanError_8 hown hK hP 0 rfl rfl 0 (by decide) (hts (.fieldLink RX8 7 "WeighingConverterModel" "z" "[I") (List.mem_of_getElem? (i := 2) rfl)) (fun _ h9 => h9) rfl dX8_meanError_48 ?_
        refine lv_bipush (v := 6) hx hb dX8_meanError_51 (by decide) ?_
        refine k_iald (k := 6) hx hb hK hP 1 0 rfl rfl (by omega) (by decide) dX8_meanError_53 ?_
        refine k_topi (y := nI z.2.2.2.2.2.2.1) rfl ?_
        refine lv_if_ne (tgt := 61) hx hb dX8_meanError_54 (by decide) (fun c_54 => ?_) (fun c_54 => ?_)
        · have c_54 : ¬ z.2.2.2.2.2.2.1 = 0 := fun h => c_54 ((nI_eq (a := z.2.2.2.2.2.2.1) (b := 0) (by omega) (by omega)).mpr h)
          refine lv_dload_n hx hb dX8_meanError_61 rfl (lv_at hl 1 rfl) ?_
          refine lv_dload hx hb dX8_meanError_62 (lv_at hl 0 rfl) ?_
          subst hs1
          refine lv_ddiv_any hd0 lw_bits hx hb dX8_meanError_64 (fun r9 d1 hal hd1 => ?_)
          have hP9 := hP.sub (ws' := [(m0, .inr (8, [.ref m1, .ref m2, .int (nI sm), .ref m3, .int (nI ln), .int 0, .ref m4, .int lf, .int kp, .ref m5, .int (nI sp), .ref m6, .int (nI tm)])), (m1, .inl (cI, 43, .inl (zArr z)))]) [0, 1] rfl
          have hD9 := hD.sub (ws' := [(m0, .inr (8, [.ref m1, .ref m2, .int (nI sm), .ref m3, .int (nI ln), .int 0, .ref m4, .int lf, .int kp, .ref m5, .int (nI sp), .ref m6, .int (nI tm)])), (m1, .inl (cI, 43, .inl (zArr z)))]) [0, 1] (by decide) rfl
          refine W.endD hd1 ?_
          exact kr_d (v := r9) hx hb hr hlocks hP9 hD9 hS (mErr_1 c_54 hal) dX8_meanError_65
        · have c_54 : z.2.2.2.2.2.2.1 = 0 := (nI_eq (a := z.2.2.2.2.2.2.1) (b := 0) (by omega) (by omega)).mp c_54
          refine lv_dconst0 hx hb dX8_meanError_57 ?_
          refine lv_goto (tgt := 65) hx hb dX8_meanError_58 (by decide) ?_
          have hP9 := hP.sub (ws' := [(m0, .inr (8, [.ref m1, .ref m2, .int (nI sm), .ref m3, .int (nI ln), .int 0, .ref m4, .int lf, .int kp, .ref m5, .int (nI sp), .ref m6, .int (nI tm)])), (m1, .inl (cI, 43, .inl (zArr z)))]) [0, 1] rfl
          have hD9 := hD.sub (ws' := [(m0, .inr (8, [.ref m1, .ref m2, .int (nI sm), .ref m3, .int (nI ln), .int 0, .ref m4, .int lf, .int kp, .ref m5, .int (nI sp), .ref m6, .int (nI tm)])), (m1, .inl (cI, 43, .inl (zArr z)))]) [0, 1] (by decide) rfl
          subst hs1
          refine W.endD hd0 ?_
          exact kr_d (v := FP.dconst0) hx hb hr hlocks hP9 hD9 hS (mErr_0 (by omega)) dX8_meanError_65
      · have c_17 : ¬ z.2.2.2.2.2.2.1 ≤ k := fun h => c_17 ((nI_leI (a := z.2.2.2.2.2.2.1) (b := k) (by omega) (by omega)).mpr h)
        refine lv_iload_n hx hb dX8_meanError_20 rfl (lv_at hl 1 rfl) ?_
        refine lv_aload_n hx hb dX8_meanError_21 rfl (lv_at hl 2 rfl) ?_
        refine lv_iload_n hx hb dX8_meanError_22 rfl (lv_at hl 0 rfl) ?_
        refine kv_i (As := [.int (nI k)]) (rest := [.int (errS z.2.2.2.2.2.2.2.2.1 z.2.2.2.2.2.2.2.2.2.2 k)]) (wr := []) ⟨hx, hb, hml, hown, hts⟩ (kX8_errorOf l D H.size cI cC cJ cZ cQ m0 m1 m2 m3 m4 m5 m6 sm ln sp tm 0 lf kp z k (by first | assumption | omega)) (cwV 1 hts gX8_meanError_X8_errorOf rfl rfl rfl (by decide +kernel) ⟨Nat.le_of_ble_eq_true rfl, Nat.le_of_ble_eq_true rfl⟩) hP hD hK hS hA hN [0, 1] [] rfl rfl (by decide) (by decide) (by decide) 0 8 rfl rfl rfl rfl hl.1 rfl (Nat.le_of_ble_eq_true rfl) dX8_meanError_23 ⟨Nat.zero_le _, Nat.zero_le _⟩ (fun H locs hP hD hS => ?_)
        have hP : va_P D vwCl [(m0, .inr (8, [.ref m1, .ref m2, .int (nI sm), .ref m3, .int (nI ln), .int 0, .ref m4, .int lf, .int kp, .ref m5, .int (nI sp), .ref m6, .int (nI tm)])), (m1, .inl (cI, 43, .inl (zArr z)))] H := hP
        have hD : va_D A [(m0, .inr (8, [.ref m1, .ref m2, .int (nI sm), .ref m3, .int (nI ln), .int 0, .ref m4, .int lf, .int kp, .ref m5, .int (nI sp), .ref m6, .int (nI tm)])), (m1, .inl (cI, 43, .inl (zArr z)))] := hD
        refine lv_iadd hx hb dX8_meanError_26 ?_
        refine lv_istore_n (lv' := [(1, .int ((errS z.2.2.2.2.2.2.2.2.1 z.2.2.2.2.2.2.2.2.2.2 k) + (16 * z.2.2.2.2.2.2.2.2.2.2 k - z.2.2.2.2.2.2.2.2.1 k))), (2, .int (nI k)), (0, .ref m0)]) hx hb dX8_meanError_27 rfl hl (by decide) rfl (fun ls hl => ?_)
        refine lv_iinc (v := nI (k + 1)) (lv' := [(2, .int (nI (k + 1))), (1, .int ((errS z.2.2.2.2.2.2.2.2.1 z.2.2.2.2.2.2.2.2.2.2 k) + (16 * z.2.2.2.2.2.2.2.2.2.2 k - z.2.2.2.2.2.2.2.2.1 k))), (0, .ref m0)]) hx hb dX8_meanError_28 hl (k := 1) rfl (by exact k_inc k) (by decide) rfl (fun ls hl => ?_)
        refine lv_goto (tgt := 9) hx hb dX8_meanError_31 (by decide) ?_
        exact ih9 (k + 1) (by first | assumption | omega) (by omega) _ _ (hP.sub [0, 1] rfl) (hD.sub [0, 1] (by decide) rfl) hS _ (lv_sub hl [0, 1, 2] rfl)
  exact J9 (z.2.2.2.2.2.2.1 - 0 + 1) 0 (by first | assumption | omega) (Nat.lt_succ_self _) _ _ (hP.sub [0, 1] rfl) (hD.sub [0, 1] (by decide) rfl) hS _ (lv_sub hl [0, 1, 2] rfl)

theorem inX8_digest_8 : ∀ w ∈ wsX80, w ∈ wsX8_digest := fun _ h => List.mem_cons_of_mem _ (List.mem_append_right _ h)
abbrev rmkX8_digest : Room := { frames := 4, cells := 0, slots := 0, locals := 92 }
set_option maxHeartbeats 4000000 in
set_option maxRecDepth 100000 in
theorem kX8_digest (l : Launch) (D : va_G) (sz : Nat) (cI : ClassId) (cC : ClassId) (cJ : ClassId) (cZ : ClassId) (cQ : ClassId) (m0 : Nat) (m1 : Nat) (m2 : Nat) (m3 : Nat) (m4 : Nat) (m5 : Nat) (m6 : Nat) (sm : Nat) (ln : Nat) (sp : Nat) (tm : Nat) (th : Int32) (lf : Int32) (kp : Int32) (z : StV) (bs : Nat → Int32) (hwc : z.2.2.2.2.2.1 ≤ 12) (hlc : z.2.2.2.2.2.2.1 ≤ 8) (hf : ∀ k, k < z.2.2.2.2.2.1 → 1 ≤ (z.2.2.2.2.2.2.2.1 k).toInt ∧ (z.2.2.2.2.2.2.2.1 k).toInt ≤ 2048) : Met l yX8_digest wsX8_digest rmkX8_digest (va_Pc [.ref m0] (kPre D sz [(m0, .inr (8, [.ref m1, .ref m2, .int (nI sm), .ref m3, .int (nI ln), .int th, .ref m4, .int lf, .int kp, .ref m5, .int (nI sp), .ref m6, .int (nI tm)])), (m1, .inl (cI, 43, .inl (zArr z))), (m5, .inl (cZ, 4096, .inl bs))] (kT cI cC cJ cZ cQ))) (kQlx D (digL z.2.2.2.2.2.2.2.2.1 z.2.2.2.2.2.2.2.2.2.1 z.2.2.2.2.2.2.2.2.2.2 (digW z.2.2.2.2.2.2.2.1 z.2.2.2.2.2.1 (mixD (mixD (mixD (mixD (mixD (mixD (mixD (mixD 8399 z.1) (nI z.2.2.2.2.2.1)) (sumW z.2.2.2.2.2.2.2.1 z.2.2.2.2.2.1)) ((wgS z.2.2.2.2.2.2.2.1 z.2.2.1 z.2.2.2.1 z.2.2.2.2.1 z.1 z.2.2.2.2.2.1).2.2)) (nI (cntB (sumB z.2.2.2.2.2.2.2.1 z.2.2.2.2.2.1) 4096))) (nI (lmS (sumB z.2.2.2.2.2.2.2.1 z.2.2.2.2.2.1) 4095 1))) (tcGo z.2.2.2.2.2.2.2.1 z.2.2.2.2.2.1 z.2.2.1 (wgS z.2.2.2.2.2.2.2.1 0 0 0 z.1 z.2.2.2.2.2.1).2.2 200 1 z.1)) (nI z.2.2.2.2.2.2.1)) z.2.2.2.2.2.1) z.2.2.2.2.2.2.1) (fun (u9 : Int32 × Int32) => [(m0, .inr (8, [.ref m1, .ref m2, .int (nI sm), .ref m3, .int (nI ln), .int 0, .ref m4, .int u9.1, .int u9.2, .ref m5, .int (nI sp), .ref m6, .int (nI tm)])), (m1, .inl (cI, 43, .inl (zArr z))), (m5, .inl (cZ, 4096, .inl (bI (sumB z.2.2.2.2.2.2.2.1 z.2.2.2.2.2.1))))]) (va_A [(m0, .inr (8, [.ref m1, .ref m2, .int (nI sm), .ref m3, .int (nI ln), .int th, .ref m4, .int lf, .int kp, .ref m5, .int (nI sp), .ref m6, .int (nI tm)])), (m1, .inl (cI, 43, .inl (zArr z))), (m5, .inl (cZ, 4096, .inl bs))] sz)) 0 0 (va_A [(m0, .inr (8, [.ref m1, .ref m2, .int (nI sm), .ref m3, .int (nI ln), .int th, .ref m4, .int lf, .int kp, .ref m5, .int (nI sp), .ref m6, .int (nI tm)])), (m1, .inl (cI, 43, .inl (zArr z))), (m5, .inl (cZ, 4096, .inl bs))] sz) := by
  refine k_met (Qf := kQlx D (digL z.2.2.2.2.2.2.2.2.1 z.2.2.2.2.2.2.2.2.2.1 z.2.2.2.2.2.2.2.2.2.2 (digW z.2.2.2.2.2.2.2.1 z.2.2.2.2.2.1 (mixD (mixD (mixD (mixD (mixD (mixD (mixD (mixD 8399 z.1) (nI z.2.2.2.2.2.1)) (sumW z.2.2.2.2.2.2.2.1 z.2.2.2.2.2.1)) ((wgS z.2.2.2.2.2.2.2.1 z.2.2.1 z.2.2.2.1 z.2.2.2.2.1 z.1 z.2.2.2.2.2.1).2.2)) (nI (cntB (sumB z.2.2.2.2.2.2.2.1 z.2.2.2.2.2.1) 4096))) (nI (lmS (sumB z.2.2.2.2.2.2.2.1 z.2.2.2.2.2.1) 4095 1))) (tcGo z.2.2.2.2.2.2.2.1 z.2.2.2.2.2.1 z.2.2.1 (wgS z.2.2.2.2.2.2.2.1 0 0 0 z.1 z.2.2.2.2.2.1).2.2 200 1 z.1)) (nI z.2.2.2.2.2.2.1)) z.2.2.2.2.2.1) z.2.2.2.2.2.2.1) (fun (u9 : Int32 × Int32) => [(m0, .inr (8, [.ref m1, .ref m2, .int (nI sm), .ref m3, .int (nI ln), .int 0, .ref m4, .int u9.1, .int u9.2, .ref m5, .int (nI sp), .ref m6, .int (nI tm)])), (m1, .inl (cI, 43, .inl (zArr z))), (m5, .inl (cZ, 4096, .inl (bI (sumB z.2.2.2.2.2.2.2.1 z.2.2.2.2.2.1))))])) (cc := cX8_digest) (maxL := 4) (ret := (some .long)) (own := RX8) (by decide) rfl (Nat.le_of_ble_eq_true rfl) rfl ?_
  intro p e s m args below meth c ls A H locs hx hb hr hts hown hlocks hml hin hsz hP hK hD hA hS hN hl
  have hl : lv_has ls 4 [(0, .ref m0)] := hl
  refine lv_aload_n hx hb dX8_digest_0 rfl (lv_at hl 0 rfl) ?_
  refine lv_iconst (v := 0) hx hb dX8_digest_1 (by decide) ?_
  refine va_put (D := D) (ci := 8) (v := .int 0) (ty := .int) (C := RX8) (T := TX8) (N := 13) hx hb hts inX8_digest_8 tyX8 tyX8_ok nmX8 hown hK hP hD hS 0 rfl rfl 5 (by decide) (hts (Cond.fieldLink RX8 29 "WeighingConverterModel" "thrown" "I") (List.mem_of_getElem? (i := 1) rfl)) (fun _ h9 => h9) rfl (by decide +kernel) rfl rfl (Nat.le_of_ble_eq_true rfl) dX8_digest_2 (fun H locs hP hD hS => ?_)
  have hP : va_P D vwCl [(m0, .inr (8, [.ref m1, .ref m2, .int (nI sm), .ref m3, .int (nI ln), .int 0, .ref m4, .int lf, .int kp, .ref m5, .int (nI sp), .ref m6, .int (nI tm)])), (m1, .inl (cI, 43, .inl (zArr z))), (m5, .inl (cZ, 4096, .inl bs))] H := hP
  have hD : va_D A [(m0, .inr (8, [.ref m1, .ref m2, .int (nI sm), .ref m3, .int (nI ln), .int 0, .ref m4, .int lf, .int kp, .ref m5, .int (nI sp), .ref m6, .int (nI tm)])), (m1, .inl (cI, 43, .inl (zArr z))), (m5, .inl (cZ, 4096, .inl bs))] := hD
  refine lv_ldc2 hx hb hown (hts (Cond.constantLong RX8 130 (8399)) (List.mem_of_getElem? (i := 2) rfl)) dX8_digest_5 ?_
  refine lv_lstore_n (lv' := [(1, .long 8399), (0, .ref m0)]) hx hb dX8_digest_8 rfl hl (by decide) rfl (fun ls hl => ?_)
  refine lv_ldc2 hx hb hown (hts (Cond.constantLong RX8 132 (31)) (List.mem_of_getElem? (i := 3) rfl)) dX8_digest_9 ?_
  refine lv_lload_n hx hb dX8_digest_12 rfl (lv_at hl 0 rfl) ?_
  refine lv_lmul hx hb dX8_digest_13 ?_
  refine lv_aload_n hx hb dX8_digest_14 rfl (lv_at hl 1 rfl) ?_
  refine va_get (D := D) (ci := 8) (v := .ref m1) (C := RX8) (T := TX8) (N := 13) hx hb hts inX8_digest_8 hown hK hP 0 rfl rfl 0 (by decide) (hts (Cond.fieldLink RX8 7 "WeighingConverterModel" "z" "[I") (List.mem_of_getElem? (i := 4) rfl)) (fun _ h9 => h9) rfl dX8_digest_15 ?_
  refine lv_iconst (v := 0) hx hb dX8_digest_18 (by decide) ?_
  refine k_iald (k := 0) hx hb hK hP 1 0 rfl rfl (by omega) (by decide) dX8_digest_19 ?_
  refine k_topi (y := z.1) rfl ?_
  refine lv_i2l hx hb dX8_digest_20 rfl ?_
  refine lv_ladd hx hb dX8_digest_21 ?_
  refine k_topl (y := mixD 8399 z.1) rfl ?_
  refine lv_lstore_n (lv' := [(1, .long (mixD 8399 z.1)), (0, .ref m0)]) hx hb dX8_digest_22 rfl hl (by decide) rfl (fun ls hl => ?_)
  refine lv_ldc2 hx hb hown (hts (Cond.constantLong RX8 132 (31)) (List.mem_of_getElem? (i := 3) rfl)) dX8_digest_23 ?_
  refine lv_lload_n hx hb dX8_digest_26 rfl (lv_at hl 0 rfl) ?_
  refine lv_lmul hx hb dX8_digest_27 ?_
  refine lv_aload_n hx hb dX8_digest_28 rfl (lv_at hl 1 rfl) ?_
  refine va_get (D := D) (ci := 8) (v := .ref m1) (C := RX8) (T := TX8) (N := 13) hx hb hts inX8_digest_8 hown hK hP 0 rfl rfl 0 (by decide) (hts (Cond.fieldLink RX8 7 "WeighingConverterModel" "z" "[I") (List.mem_of_getElem? (i := 4) rfl)) (fun _ h9 => h9) rfl dX8_digest_29 ?_
  refine lv_iconst (v := 5) hx hb dX8_digest_32 (by decide) ?_
  refine k_iald (k := 5) hx hb hK hP 1 0 rfl rfl (by omega) (by decide) dX8_digest_33 ?_
  refine k_topi (y := nI z.2.2.2.2.2.1) rfl ?_
  refine lv_i2l hx hb dX8_digest_34 rfl ?_
  refine lv_ladd hx hb dX8_digest_35 ?_
  refine k_topl (y := mixD (mixD 8399 z.1) (nI z.2.2.2.2.2.1)) rfl ?_
  refine lv_lstore_n (lv' := [(1, .long (mixD (mixD 8399 z.1) (nI z.2.2.2.2.2.1))), (0, .ref m0)]) hx hb dX8_digest_36 rfl hl (by decide) rfl (fun ls hl => ?_)
  refine lv_ldc2 hx hb hown (hts (Cond.constantLong RX8 132 (31)) (List.mem_of_getElem? (i := 3) rfl)) dX8_digest_37 ?_
  refine lv_lload_n hx hb dX8_digest_40 rfl (lv_at hl 0 rfl) ?_
  refine lv_lmul hx hb dX8_digest_41 ?_
  refine lv_aload_n hx hb dX8_digest_42 rfl (lv_at hl 1 rfl) ?_
  refine kv_i (As := []) (rest := [.long (31 * (mixD (mixD 8399 z.1) (nI z.2.2.2.2.2.1)))]) (wr := [(m5, .inl (cZ, 4096, .inl bs))]) ⟨hx, hb, hml, hown, hts⟩ (kX8_sum l D H.size cI cC cJ cZ cQ m0 m1 m2 m3 m4 m5 m6 sm ln sp tm 0 lf kp z (by first | assumption | omega)) (cwV 0 hts gX8_digest_X8_sum rfl rfl rfl (by decide +kernel) ⟨Nat.le_of_ble_eq_true rfl, Nat.le_of_ble_eq_true rfl⟩) hP hD hK hS hA hN [0, 1] [2] rfl rfl (by decide) (by decide) (by decide) 0 8 rfl rfl rfl rfl hl.1 rfl (Nat.le_of_ble_eq_true rfl) dX8_digest_43 ⟨Nat.zero_le _, Nat.zero_le _⟩ (fun H locs hP hD hS => ?_)
  have hP : va_P D vwCl [(m5, .inl (cZ, 4096, .inl bs)), (m0, .inr (8, [.ref m1, .ref m2, .int (nI sm), .ref m3, .int (nI ln), .int 0, .ref m4, .int lf, .int kp, .ref m5, .int (nI sp), .ref m6, .int (nI tm)])), (m1, .inl (cI, 43, .inl (zArr z)))] H := hP
  have hD : va_D A [(m5, .inl (cZ, 4096, .inl bs)), (m0, .inr (8, [.ref m1, .ref m2, .int (nI sm), .ref m3, .int (nI ln), .int 0, .ref m4, .int lf, .int kp, .ref m5, .int (nI sp), .ref m6, .int (nI tm)])), (m1, .inl (cI, 43, .inl (zArr z)))] := hD
  refine lv_i2l hx hb dX8_digest_46 rfl ?_
  refine lv_ladd hx hb dX8_digest_47 ?_
  refine k_topl (y := mixD (mixD (mixD 8399 z.1) (nI z.2.2.2.2.2.1)) (sumW z.2.2.2.2.2.2.2.1 z.2.2.2.2.2.1)) rfl ?_
  refine lv_lstore_n (lv' := [(1, .long (mixD (mixD (mixD 8399 z.1) (nI z.2.2.2.2.2.1)) (sumW z.2.2.2.2.2.2.2.1 z.2.2.2.2.2.1))), (0, .ref m0)]) hx hb dX8_digest_48 rfl hl (by decide) rfl (fun ls hl => ?_)
  refine lv_ldc2 hx hb hown (hts (Cond.constantLong RX8 132 (31)) (List.mem_of_getElem? (i := 3) rfl)) dX8_digest_49 ?_
  refine lv_lload_n hx hb dX8_digest_52 rfl (lv_at hl 0 rfl) ?_
  refine lv_lmul hx hb dX8_digest_53 ?_
  refine lv_aload_n hx hb dX8_digest_54 rfl (lv_at hl 1 rfl) ?_
  refine kv_i (As := []) (rest := [.long (31 * (mixD (mixD (mixD 8399 z.1) (nI z.2.2.2.2.2.1)) (sumW z.2.2.2.2.2.2.2.1 z.2.2.2.2.2.1)))]) (wr := [(m5, .inl (cZ, 4096, .inl bs))]) ⟨hx, hb, hml, hown, hts⟩ (kX8_next l D H.size cI cC cJ cZ cQ m0 m1 m2 m3 m4 m5 m6 sm ln sp tm 0 lf kp z (by first | assumption | omega)) (cwV 0 hts gX8_digest_X8_next rfl rfl rfl (by decide +kernel) ⟨Nat.le_of_ble_eq_true rfl, Nat.le_of_ble_eq_true rfl⟩) hP hD hK hS hA hN [1, 2] [0] rfl rfl (by decide) (by decide) (by decide) 1 8 rfl rfl rfl rfl hl.1 rfl (Nat.le_of_ble_eq_true rfl) dX8_digest_55 ⟨Nat.zero_le _, Nat.zero_le _⟩ (fun H locs hP hD hS => ?_)
  have hP : va_P D vwCl [(m5, .inl (cZ, 4096, .inl bs)), (m0, .inr (8, [.ref m1, .ref m2, .int (nI sm), .ref m3, .int (nI ln), .int 0, .ref m4, .int ((wgS z.2.2.2.2.2.2.2.1 z.2.2.1 z.2.2.2.1 z.2.2.2.2.1 z.1 z.2.2.2.2.2.1).1), .int ((wgS z.2.2.2.2.2.2.2.1 z.2.2.1 z.2.2.2.1 z.2.2.2.2.1 z.1 z.2.2.2.2.2.1).2.1), .ref m5, .int (nI sp), .ref m6, .int (nI tm)])), (m1, .inl (cI, 43, .inl (zArr z)))] H := hP
  have hD : va_D A [(m5, .inl (cZ, 4096, .inl bs)), (m0, .inr (8, [.ref m1, .ref m2, .int (nI sm), .ref m3, .int (nI ln), .int 0, .ref m4, .int ((wgS z.2.2.2.2.2.2.2.1 z.2.2.1 z.2.2.2.1 z.2.2.2.2.1 z.1 z.2.2.2.2.2.1).1), .int ((wgS z.2.2.2.2.2.2.2.1 z.2.2.1 z.2.2.2.1 z.2.2.2.2.1 z.1 z.2.2.2.2.2.1).2.1), .ref m5, .int (nI sp), .ref m6, .int (nI tm)])), (m1, .inl (cI, 43, .inl (zArr z)))] := hD
  refine lv_i2l hx hb dX8_digest_58 rfl ?_
  refine lv_ladd hx hb dX8_digest_59 ?_
  refine k_topl (y := mixD (mixD (mixD (mixD 8399 z.1) (nI z.2.2.2.2.2.1)) (sumW z.2.2.2.2.2.2.2.1 z.2.2.2.2.2.1)) ((wgS z.2.2.2.2.2.2.2.1 z.2.2.1 z.2.2.2.1 z.2.2.2.2.1 z.1 z.2.2.2.2.2.1).2.2)) rfl ?_
  refine lv_lstore_n (lv' := [(1, .long (mixD (mixD (mixD (mixD 8399 z.1) (nI z.2.2.2.2.2.1)) (sumW z.2.2.2.2.2.2.2.1 z.2.2.2.2.2.1)) ((wgS z.2.2.2.2.2.2.2.1 z.2.2.1 z.2.2.2.1 z.2.2.2.2.1 z.1 z.2.2.2.2.2.1).2.2))), (0, .ref m0)]) hx hb dX8_digest_60 rfl hl (by decide) rfl (fun ls hl => ?_)
  refine lv_ldc2 hx hb hown (hts (Cond.constantLong RX8 132 (31)) (List.mem_of_getElem? (i := 3) rfl)) dX8_digest_61 ?_
  refine lv_lload_n hx hb dX8_digest_64 rfl (lv_at hl 0 rfl) ?_
  refine lv_lmul hx hb dX8_digest_65 ?_
  refine lv_aload_n hx hb dX8_digest_66 rfl (lv_at hl 1 rfl) ?_
  refine kv_i (As := []) (rest := [.long (31 * (mixD (mixD (mixD (mixD 8399 z.1) (nI z.2.2.2.2.2.1)) (sumW z.2.2.2.2.2.2.2.1 z.2.2.2.2.2.1)) ((wgS z.2.2.2.2.2.2.2.1 z.2.2.1 z.2.2.2.1 z.2.2.2.2.1 z.1 z.2.2.2.2.2.1).2.2)))]) (wr := []) ⟨hx, hb, hml, hown, hts⟩ (kX8_countSums l D H.size cI cC cJ cZ cQ m0 m1 m2 m3 m4 m5 m6 sm ln sp tm 0 ((wgS z.2.2.2.2.2.2.2.1 z.2.2.1 z.2.2.2.1 z.2.2.2.2.1 z.1 z.2.2.2.2.2.1).1) ((wgS z.2.2.2.2.2.2.2.1 z.2.2.1 z.2.2.2.1 z.2.2.2.2.1 z.1 z.2.2.2.2.2.1).2.1) z bs (by first | assumption | omega) (by first | assumption | omega)) (cwV 0 hts gX8_digest_X8_countSums rfl rfl rfl (by decide +kernel) ⟨Nat.le_of_ble_eq_true rfl, Nat.le_of_ble_eq_true rfl⟩) hP hD hK hS hA hN [1, 2, 0] [] rfl rfl (by decide) (by decide) (by decide) 1 8 rfl rfl rfl rfl hl.1 rfl (Nat.le_of_ble_eq_true rfl) dX8_digest_67 ⟨Nat.zero_le _, Nat.zero_le _⟩ (fun H locs hP hD hS => ?_)
  have hP : va_P D vwCl [(m0, .inr (8, [.ref m1, .ref m2, .int (nI sm), .ref m3, .int (nI ln), .int 0, .ref m4, .int ((wgS z.2.2.2.2.2.2.2.1 z.2.2.1 z.2.2.2.1 z.2.2.2.2.1 z.1 z.2.2.2.2.2.1).1), .int ((wgS z.2.2.2.2.2.2.2.1 z.2.2.1 z.2.2.2.1 z.2.2.2.2.1 z.1 z.2.2.2.2.2.1).2.1), .ref m5, .int (nI sp), .ref m6, .int (nI tm)])), (m1, .inl (cI, 43, .inl (zArr z))), (m5, .inl (cZ, 4096, .inl (bI (sumB z.2.2.2.2.2.2.2.1 z.2.2.2.2.2.1))))] H := hP
  have hD : va_D A [(m0, .inr (8, [.ref m1, .ref m2, .int (nI sm), .ref m3, .int (nI ln), .int 0, .ref m4, .int ((wgS z.2.2.2.2.2.2.2.1 z.2.2.1 z.2.2.2.1 z.2.2.2.2.1 z.1 z.2.2.2.2.2.1).1), .int ((wgS z.2.2.2.2.2.2.2.1 z.2.2.1 z.2.2.2.1 z.2.2.2.2.1 z.1 z.2.2.2.2.2.1).2.1), .ref m5, .int (nI sp), .ref m6, .int (nI tm)])), (m1, .inl (cI, 43, .inl (zArr z))), (m5, .inl (cZ, 4096, .inl (bI (sumB z.2.2.2.2.2.2.2.1 z.2.2.2.2.2.1))))] := hD
  refine lv_i2l hx hb dX8_digest_70 rfl ?_
  refine lv_ladd hx hb dX8_digest_71 ?_
  refine k_topl (y := mixD (mixD (mixD (mixD (mixD 8399 z.1) (nI z.2.2.2.2.2.1)) (sumW z.2.2.2.2.2.2.2.1 z.2.2.2.2.2.1)) ((wgS z.2.2.2.2.2.2.2.1 z.2.2.1 z.2.2.2.1 z.2.2.2.2.1 z.1 z.2.2.2.2.2.1).2.2)) (nI (cntB (sumB z.2.2.2.2.2.2.2.1 z.2.2.2.2.2.1) 4096))) rfl ?_
  refine lv_lstore_n (lv' := [(1, .long (mixD (mixD (mixD (mixD (mixD 8399 z.1) (nI z.2.2.2.2.2.1)) (sumW z.2.2.2.2.2.2.2.1 z.2.2.2.2.2.1)) ((wgS z.2.2.2.2.2.2.2.1 z.2.2.1 z.2.2.2.1 z.2.2.2.2.1 z.1 z.2.2.2.2.2.1).2.2)) (nI (cntB (sumB z.2.2.2.2.2.2.2.1 z.2.2.2.2.2.1) 4096)))), (0, .ref m0)]) hx hb dX8_digest_72 rfl hl (by decide) rfl (fun ls hl => ?_)
  refine lv_ldc2 hx hb hown (hts (Cond.constantLong RX8 132 (31)) (List.mem_of_getElem? (i := 3) rfl)) dX8_digest_73 ?_
  refine lv_lload_n hx hb dX8_digest_76 rfl (lv_at hl 0 rfl) ?_
  refine lv_lmul hx hb dX8_digest_77 ?_
  refine lv_aload_n hx hb dX8_digest_78 rfl (lv_at hl 1 rfl) ?_
  refine kv_i (As := []) (rest := [.long (31 * (mixD (mixD (mixD (mixD (mixD 8399 z.1) (nI z.2.2.2.2.2.1)) (sumW z.2.2.2.2.2.2.2.1 z.2.2.2.2.2.1)) ((wgS z.2.2.2.2.2.2.2.1 z.2.2.1 z.2.2.2.1 z.2.2.2.2.1 z.1 z.2.2.2.2.2.1).2.2)) (nI (cntB (sumB z.2.2.2.2.2.2.2.1 z.2.2.2.2.2.1) 4096))))]) (wr := [(m5, .inl (cZ, 4096, .inl (bI (sumB z.2.2.2.2.2.2.2.1 z.2.2.2.2.2.1))))]) ⟨hx, hb, hml, hown, hts⟩ (kX8_missing l D H.size cI cC cJ cZ cQ m0 m1 m2 m3 m4 m5 m6 sm ln sp tm 0 ((wgS z.2.2.2.2.2.2.2.1 z.2.2.1 z.2.2.2.1 z.2.2.2.2.1 z.1 z.2.2.2.2.2.1).1) ((wgS z.2.2.2.2.2.2.2.1 z.2.2.1 z.2.2.2.1 z.2.2.2.2.1 z.1 z.2.2.2.2.2.1).2.1) z (by first | assumption | omega) (by first | assumption | omega)) (cwV 0 hts gX8_digest_X8_missing rfl rfl rfl (by decide +kernel) ⟨Nat.le_of_ble_eq_true rfl, Nat.le_of_ble_eq_true rfl⟩) hP hD hK hS hA hN [0, 1] [2] rfl rfl (by decide) (by decide) (by decide) 0 8 rfl rfl rfl rfl hl.1 rfl (Nat.le_of_ble_eq_true rfl) dX8_digest_79 ⟨Nat.zero_le _, Nat.zero_le _⟩ (fun H locs hP hD hS => ?_)
  have hP : va_P D vwCl [(m5, .inl (cZ, 4096, .inl (bI (sumB z.2.2.2.2.2.2.2.1 z.2.2.2.2.2.1)))), (m0, .inr (8, [.ref m1, .ref m2, .int (nI sm), .ref m3, .int (nI ln), .int 0, .ref m4, .int ((wgS z.2.2.2.2.2.2.2.1 z.2.2.1 z.2.2.2.1 z.2.2.2.2.1 z.1 z.2.2.2.2.2.1).1), .int ((wgS z.2.2.2.2.2.2.2.1 z.2.2.1 z.2.2.2.1 z.2.2.2.2.1 z.1 z.2.2.2.2.2.1).2.1), .ref m5, .int (nI sp), .ref m6, .int (nI tm)])), (m1, .inl (cI, 43, .inl (zArr z)))] H := hP
  have hD : va_D A [(m5, .inl (cZ, 4096, .inl (bI (sumB z.2.2.2.2.2.2.2.1 z.2.2.2.2.2.1)))), (m0, .inr (8, [.ref m1, .ref m2, .int (nI sm), .ref m3, .int (nI ln), .int 0, .ref m4, .int ((wgS z.2.2.2.2.2.2.2.1 z.2.2.1 z.2.2.2.1 z.2.2.2.2.1 z.1 z.2.2.2.2.2.1).1), .int ((wgS z.2.2.2.2.2.2.2.1 z.2.2.1 z.2.2.2.1 z.2.2.2.2.1 z.1 z.2.2.2.2.2.1).2.1), .ref m5, .int (nI sp), .ref m6, .int (nI tm)])), (m1, .inl (cI, 43, .inl (zArr z)))] := hD
  refine lv_i2l hx hb dX8_digest_82 rfl ?_
  refine lv_ladd hx hb dX8_digest_83 ?_
  refine k_topl (y := mixD (mixD (mixD (mixD (mixD (mixD 8399 z.1) (nI z.2.2.2.2.2.1)) (sumW z.2.2.2.2.2.2.2.1 z.2.2.2.2.2.1)) ((wgS z.2.2.2.2.2.2.2.1 z.2.2.1 z.2.2.2.1 z.2.2.2.2.1 z.1 z.2.2.2.2.2.1).2.2)) (nI (cntB (sumB z.2.2.2.2.2.2.2.1 z.2.2.2.2.2.1) 4096))) (nI (lmS (sumB z.2.2.2.2.2.2.2.1 z.2.2.2.2.2.1) 4095 1))) rfl ?_
  refine lv_lstore_n (lv' := [(1, .long (mixD (mixD (mixD (mixD (mixD (mixD 8399 z.1) (nI z.2.2.2.2.2.1)) (sumW z.2.2.2.2.2.2.2.1 z.2.2.2.2.2.1)) ((wgS z.2.2.2.2.2.2.2.1 z.2.2.1 z.2.2.2.1 z.2.2.2.2.1 z.1 z.2.2.2.2.2.1).2.2)) (nI (cntB (sumB z.2.2.2.2.2.2.2.1 z.2.2.2.2.2.1) 4096))) (nI (lmS (sumB z.2.2.2.2.2.2.2.1 z.2.2.2.2.2.1) 4095 1)))), (0, .ref m0)]) hx hb dX8_digest_84 rfl hl (by decide) rfl (fun ls hl => ?_)
  refine lv_ldc2 hx hb hown (hts (Cond.constantLong RX8 132 (31)) (List.mem_of_getElem? (i := 3) rfl)) dX8_digest_85 ?_
  refine lv_lload_n hx hb dX8_digest_88 rfl (lv_at hl 0 rfl) ?_
  refine lv_lmul hx hb dX8_digest_89 ?_
  refine lv_aload_n hx hb dX8_digest_90 rfl (lv_at hl 1 rfl) ?_
  refine kv_ix (As := []) (rest := [.long (31 * (mixD (mixD (mixD (mixD (mixD (mixD 8399 z.1) (nI z.2.2.2.2.2.1)) (sumW z.2.2.2.2.2.2.2.1 z.2.2.2.2.2.1)) ((wgS z.2.2.2.2.2.2.2.1 z.2.2.1 z.2.2.2.1 z.2.2.2.2.1 z.1 z.2.2.2.2.2.1).2.2)) (nI (cntB (sumB z.2.2.2.2.2.2.2.1 z.2.2.2.2.2.1) 4096))) (nI (lmS (sumB z.2.2.2.2.2.2.2.1 z.2.2.2.2.2.1) 4095 1))))]) (wr := [(m5, .inl (cZ, 4096, .inl (bI (sumB z.2.2.2.2.2.2.2.1 z.2.2.2.2.2.1))))]) ⟨hx, hb, hml, hown, hts⟩ (kX8_changeIn l D H.size cI cC cJ cZ cQ m0 m1 m2 m3 m4 m5 m6 sm ln sp tm 0 ((wgS z.2.2.2.2.2.2.2.1 z.2.2.1 z.2.2.2.1 z.2.2.2.2.1 z.1 z.2.2.2.2.2.1).1) ((wgS z.2.2.2.2.2.2.2.1 z.2.2.1 z.2.2.2.1 z.2.2.2.2.1 z.1 z.2.2.2.2.2.1).2.1) z (by first | assumption | omega)) (cwV 0 hts gX8_digest_X8_changeIn rfl rfl rfl (by decide +kernel) ⟨Nat.le_of_ble_eq_true rfl, Nat.le_of_ble_eq_true rfl⟩) hP hD hK hS hA hN [1, 2] [0] rfl rfl (by decide) (by decide) (by decide) 1 8 rfl rfl rfl rfl hl.1 rfl (Nat.le_of_ble_eq_true rfl) dX8_digest_91 ⟨Nat.zero_le _, Nat.zero_le _⟩ (fun u_1 H locs hP hD hS => ?_)
  have hP : va_P D vwCl [(m5, .inl (cZ, 4096, .inl (bI (sumB z.2.2.2.2.2.2.2.1 z.2.2.2.2.2.1)))), (m0, .inr (8, [.ref m1, .ref m2, .int (nI sm), .ref m3, .int (nI ln), .int 0, .ref m4, .int u_1.1, .int u_1.2, .ref m5, .int (nI sp), .ref m6, .int (nI tm)])), (m1, .inl (cI, 43, .inl (zArr z)))] H := hP
  have hD : va_D A [(m5, .inl (cZ, 4096, .inl (bI (sumB z.2.2.2.2.2.2.2.1 z.2.2.2.2.2.1)))), (m0, .inr (8, [.ref m1, .ref m2, .int (nI sm), .ref m3, .int (nI ln), .int 0, .ref m4, .int u_1.1, .int u_1.2, .ref m5, .int (nI sp), .ref m6, .int (nI tm)])), (m1, .inl (cI, 43, .inl (zArr z)))] := hD
  refine lv_i2l hx hb dX8_digest_94 rfl ?_
  refine lv_ladd hx hb dX8_digest_95 ?_
  refine k_topl (y := mixD (mixD (mixD (mixD (mixD (mixD (mixD 8399 z.1) (nI z.2.2.2.2.2.1)) (sumW z.2.2.2.2.2.2.2.1 z.2.2.2.2.2.1)) ((wgS z.2.2.2.2.2.2.2.1 z.2.2.1 z.2.2.2.1 z.2.2.2.2.1 z.1 z.2.2.2.2.2.1).2.2)) (nI (cntB (sumB z.2.2.2.2.2.2.2.1 z.2.2.2.2.2.1) 4096))) (nI (lmS (sumB z.2.2.2.2.2.2.2.1 z.2.2.2.2.2.1) 4095 1))) (tcGo z.2.2.2.2.2.2.2.1 z.2.2.2.2.2.1 z.2.2.1 (wgS z.2.2.2.2.2.2.2.1 0 0 0 z.1 z.2.2.2.2.2.1).2.2 200 1 z.1)) rfl ?_
  refine lv_lstore_n (lv' := [(1, .long (mixD (mixD (mixD (mixD (mixD (mixD (mixD 8399 z.1) (nI z.2.2.2.2.2.1)) (sumW z.2.2.2.2.2.2.2.1 z.2.2.2.2.2.1)) ((wgS z.2.2.2.2.2.2.2.1 z.2.2.1 z.2.2.2.1 z.2.2.2.2.1 z.1 z.2.2.2.2.2.1).2.2)) (nI (cntB (sumB z.2.2.2.2.2.2.2.1 z.2.2.2.2.2.1) 4096))) (nI (lmS (sumB z.2.2.2.2.2.2.2.1 z.2.2.2.2.2.1) 4095 1))) (tcGo z.2.2.2.2.2.2.2.1 z.2.2.2.2.2.1 z.2.2.1 (wgS z.2.2.2.2.2.2.2.1 0 0 0 z.1 z.2.2.2.2.2.1).2.2 200 1 z.1))), (0, .ref m0)]) hx hb dX8_digest_96 rfl hl (by decide) rfl (fun ls hl => ?_)
  refine lv_ldc2 hx hb hown (hts (Cond.constantLong RX8 132 (31)) (List.mem_of_getElem? (i := 3) rfl)) dX8_digest_97 ?_
  refine lv_lload_n hx hb dX8_digest_100 rfl (lv_at hl 0 rfl) ?_
  refine lv_lmul hx hb dX8_digest_101 ?_
  refine lv_aload_n hx hb dX8_digest_102 rfl (lv_at hl 1 rfl) ?_
  refine va_get (D := D) (ci := 8) (v := .ref m1) (C := RX8) (T := TX8) (N := 13) hx hb hts inX8_digest_8 hown hK hP 1 rfl rfl 0 (by decide) (hts (Cond.fieldLink RX8 7 "WeighingConverterModel" "z" "[I") (List.mem_of_getElem? (i := 4) rfl)) (fun _ h9 => h9) rfl dX8_digest_103 ?_
  refine lv_bipush (v := 6) hx hb dX8_digest_106 (by decide) ?_
  refine k_iald (k := 6) hx hb hK hP 2 0 rfl rfl (by omega) (by decide) dX8_digest_108 ?_
  refine k_topi (y := nI z.2.2.2.2.2.2.1) rfl ?_
  refine lv_i2l hx hb dX8_digest_109 rfl ?_
  refine lv_ladd hx hb dX8_digest_110 ?_
  refine k_topl (y := mixD (mixD (mixD (mixD (mixD (mixD (mixD (mixD 8399 z.1) (nI z.2.2.2.2.2.1)) (sumW z.2.2.2.2.2.2.2.1 z.2.2.2.2.2.1)) ((wgS z.2.2.2.2.2.2.2.1 z.2.2.1 z.2.2.2.1 z.2.2.2.2.1 z.1 z.2.2.2.2.2.1).2.2)) (nI (cntB (sumB z.2.2.2.2.2.2.2.1 z.2.2.2.2.2.1) 4096))) (nI (lmS (sumB z.2.2.2.2.2.2.2.1 z.2.2.2.2.2.1) 4095 1))) (tcGo z.2.2.2.2.2.2.2.1 z.2.2.2.2.2.1 z.2.2.1 (wgS z.2.2.2.2.2.2.2.1 0 0 0 z.1 z.2.2.2.2.2.1).2.2 200 1 z.1)) (nI z.2.2.2.2.2.2.1)) rfl ?_
  refine lv_lstore_n (lv' := [(1, .long (mixD (mixD (mixD (mixD (mixD (mixD (mixD (mixD 8399 z.1) (nI z.2.2.2.2.2.1)) (sumW z.2.2.2.2.2.2.2.1 z.2.2.2.2.2.1)) ((wgS z.2.2.2.2.2.2.2.1 z.2.2.1 z.2.2.2.1 z.2.2.2.2.1 z.1 z.2.2.2.2.2.1).2.2)) (nI (cntB (sumB z.2.2.2.2.2.2.2.1 z.2.2.2.2.2.1) 4096))) (nI (lmS (sumB z.2.2.2.2.2.2.2.1 z.2.2.2.2.2.1) 4095 1))) (tcGo z.2.2.2.2.2.2.2.1 z.2.2.2.2.2.1 z.2.2.1 (wgS z.2.2.2.2.2.2.2.1 0 0 0 z.1 z.2.2.2.2.2.1).2.2 200 1 z.1)) (nI z.2.2.2.2.2.2.1))), (0, .ref m0)]) hx hb dX8_digest_111 rfl hl (by decide) rfl (fun ls hl => ?_)
  refine lv_iconst (v := 0) hx hb dX8_digest_112 (by decide) ?_
  refine lv_istore_n (lv' := [(3, .int 0), (1, .long (mixD (mixD (mixD (mixD (mixD (mixD (mixD (mixD 8399 z.1) (nI z.2.2.2.2.2.1)) (sumW z.2.2.2.2.2.2.2.1 z.2.2.2.2.2.1)) ((wgS z.2.2.2.2.2.2.2.1 z.2.2.1 z.2.2.2.1 z.2.2.2.2.1 z.1 z.2.2.2.2.2.1).2.2)) (nI (cntB (sumB z.2.2.2.2.2.2.2.1 z.2.2.2.2.2.1) 4096))) (nI (lmS (sumB z.2.2.2.2.2.2.2.1 z.2.2.2.2.2.1) 4095 1))) (tcGo z.2.2.2.2.2.2.2.1 z.2.2.2.2.2.1 z.2.2.1 (wgS z.2.2.2.2.2.2.2.1 0 0 0 z.1 z.2.2.2.2.2.1).2.2 200 1 z.1)) (nI z.2.2.2.2.2.2.1))), (0, .ref m0)]) hx hb dX8_digest_113 rfl hl (by decide) rfl (fun ls hl => ?_)
  have J114 : ∀ (fuel : Nat) (k : Nat) (yv : Int32) (yk : Int32) (hk : k ≤ z.2.2.2.2.2.1) (hm : z.2.2.2.2.2.1 - k < fuel) (H : Heap) (locs : List Loc) (hP : va_P D vwCl [(m5, .inl (cZ, 4096, .inl (bI (sumB z.2.2.2.2.2.2.2.1 z.2.2.2.2.2.1)))), (m0, .inr (8, [.ref m1, .ref m2, .int (nI sm), .ref m3, .int (nI ln), .int 0, .ref m4, .int yv, .int yk, .ref m5, .int (nI sp), .ref m6, .int (nI tm)])), (m1, .inl (cI, 43, .inl (zArr z)))] H) (hD : va_D A [(m5, .inl (cZ, 4096, .inl (bI (sumB z.2.2.2.2.2.2.2.1 z.2.2.2.2.2.1)))), (m0, .inr (8, [.ref m1, .ref m2, .int (nI sm), .ref m3, .int (nI ln), .int 0, .ref m4, .int yv, .int yk, .ref m5, .int (nI sp), .ref m6, .int (nI tm)])), (m1, .inl (cI, 43, .inl (zArr z)))]) (hS : va_S A s.heap H locs) (ls : Array Slot) (hl : lv_has ls 4 [(3, .int (nI k)), (1, .long (digW z.2.2.2.2.2.2.2.1 z.2.2.2.2.2.1 (mixD (mixD (mixD (mixD (mixD (mixD (mixD (mixD 8399 z.1) (nI z.2.2.2.2.2.1)) (sumW z.2.2.2.2.2.2.2.1 z.2.2.2.2.2.1)) ((wgS z.2.2.2.2.2.2.2.1 z.2.2.1 z.2.2.2.1 z.2.2.2.2.1 z.1 z.2.2.2.2.2.1).2.2)) (nI (cntB (sumB z.2.2.2.2.2.2.2.1 z.2.2.2.2.2.1) 4096))) (nI (lmS (sumB z.2.2.2.2.2.2.2.1 z.2.2.2.2.2.1) 4095 1))) (tcGo z.2.2.2.2.2.2.2.1 z.2.2.2.2.2.1 z.2.2.1 (wgS z.2.2.2.2.2.2.2.1 0 0 0 z.1 z.2.2.2.2.2.1).2.2 200 1 z.1)) (nI z.2.2.2.2.2.2.1)) k)), (0, .ref m0)]), W p l e rmkX8_digest s m args below meth c H locs 0 0 (MQ below (kQlx D (digL z.2.2.2.2.2.2.2.2.1 z.2.2.2.2.2.2.2.2.2.1 z.2.2.2.2.2.2.2.2.2.2 (digW z.2.2.2.2.2.2.2.1 z.2.2.2.2.2.1 (mixD (mixD (mixD (mixD (mixD (mixD (mixD (mixD 8399 z.1) (nI z.2.2.2.2.2.1)) (sumW z.2.2.2.2.2.2.2.1 z.2.2.2.2.2.1)) ((wgS z.2.2.2.2.2.2.2.1 z.2.2.1 z.2.2.2.1 z.2.2.2.2.1 z.1 z.2.2.2.2.2.1).2.2)) (nI (cntB (sumB z.2.2.2.2.2.2.2.1 z.2.2.2.2.2.1) 4096))) (nI (lmS (sumB z.2.2.2.2.2.2.2.1 z.2.2.2.2.2.1) 4095 1))) (tcGo z.2.2.2.2.2.2.2.1 z.2.2.2.2.2.1 z.2.2.1 (wgS z.2.2.2.2.2.2.2.1 0 0 0 z.1 z.2.2.2.2.2.1).2.2 200 1 z.1)) (nI z.2.2.2.2.2.2.1)) z.2.2.2.2.2.1) z.2.2.2.2.2.2.1) (fun (u9 : Int32 × Int32) => [(m0, .inr (8, [.ref m1, .ref m2, .int (nI sm), .ref m3, .int (nI ln), .int 0, .ref m4, .int u9.1, .int u9.2, .ref m5, .int (nI sp), .ref m6, .int (nI tm)])), (m1, .inl (cI, 43, .inl (zArr z))), (m5, .inl (cZ, 4096, .inl (bI (sumB z.2.2.2.2.2.2.2.1 z.2.2.2.2.2.1))))]) A) args s 0 0 A) (F0 m 114 ls []) := by
    intro fuel
    induction fuel with
    | zero => intro k yv yk hk hm; exact absurd hm (Nat.not_lt_zero _)
    | succ fuel ih114 =>
      intro k yv yk hk hm H locs hP hD hS ls hl
      refine lv_iload_n hx hb dX8_digest_114 rfl (lv_at hl 0 rfl) ?_
      refine lv_aload_n hx hb dX8_digest_115 rfl (lv_at hl 2 rfl) ?_
      refine va_get (D := D) (ci := 8) (v := .ref m1) (C := RX8) (T := TX8) (N := 13) hx hb hts inX8_digest_8 hown hK hP 1 rfl rfl 0 (by decide) (hts (Cond.fieldLink RX8 7 "WeighingConverterModel" "z" "[I") (List.mem_of_getElem? (i := 4) rfl)) (fun _ h9 => h9) rfl dX8_digest_116 ?_
      refine lv_iconst (v := 5) hx hb dX8_digest_119 (by decide) ?_
      refine k_iald (k := 5) hx hb hK hP 2 0 rfl rfl (by omega) (by decide) dX8_digest_120 ?_
      refine k_topi (y := nI z.2.2.2.2.2.1) rfl ?_
      refine lv_icmp_ge (tgt := 160) hx hb dX8_digest_121 (by decide) (fun c_121 => ?_) (fun c_121 => ?_)
      · have c_121 : z.2.2.2.2.2.1 ≤ k := (nI_leI (a := z.2.2.2.2.2.1) (b := k) (by omega) (by omega)).mp c_121
        have hk9 : k = z.2.2.2.2.2.1 := by omega
        rw [hk9] at hl
        refine lv_iconst (v := 0) hx hb dX8_digest_160 (by decide) ?_
        refine lv_istore_n (lv' := [(3, .int 0), (1, .long (digW z.2.2.2.2.2.2.2.1 z.2.2.2.2.2.1 (mixD (mixD (mixD (mixD (mixD (mixD (mixD (mixD 8399 z.1) (nI z.2.2.2.2.2.1)) (sumW z.2.2.2.2.2.2.2.1 z.2.2.2.2.2.1)) ((wgS z.2.2.2.2.2.2.2.1 z.2.2.1 z.2.2.2.1 z.2.2.2.2.1 z.1 z.2.2.2.2.2.1).2.2)) (nI (cntB (sumB z.2.2.2.2.2.2.2.1 z.2.2.2.2.2.1) 4096))) (nI (lmS (sumB z.2.2.2.2.2.2.2.1 z.2.2.2.2.2.1) 4095 1))) (tcGo z.2.2.2.2.2.2.2.1 z.2.2.2.2.2.1 z.2.2.1 (wgS z.2.2.2.2.2.2.2.1 0 0 0 z.1 z.2.2.2.2.2.1).2.2 200 1 z.1)) (nI z.2.2.2.2.2.2.1)) z.2.2.2.2.2.1)), (0, .ref m0)]) hx hb dX8_digest_161 rfl hl (by decide) rfl (fun ls hl => ?_)
        have J162 : ∀ (fuel : Nat) (k2 : Nat) (jv : Int32) (jk : Int32) (hk2 : k2 ≤ z.2.2.2.2.2.2.1) (hm : z.2.2.2.2.2.2.1 - k2 < fuel) (H : Heap) (locs : List Loc) (hP : va_P D vwCl [(m5, .inl (cZ, 4096, .inl (bI (sumB z.2.2.2.2.2.2.2.1 z.2.2.2.2.2.1)))), (m0, .inr (8, [.ref m1, .ref m2, .int (nI sm), .ref m3, .int (nI ln), .int 0, .ref m4, .int jv, .int jk, .ref m5, .int (nI sp), .ref m6, .int (nI tm)])), (m1, .inl (cI, 43, .inl (zArr z)))] H) (hD : va_D A [(m5, .inl (cZ, 4096, .inl (bI (sumB z.2.2.2.2.2.2.2.1 z.2.2.2.2.2.1)))), (m0, .inr (8, [.ref m1, .ref m2, .int (nI sm), .ref m3, .int (nI ln), .int 0, .ref m4, .int jv, .int jk, .ref m5, .int (nI sp), .ref m6, .int (nI tm)])), (m1, .inl (cI, 43, .inl (zArr z)))]) (hS : va_S A s.heap H locs) (ls : Array Slot) (hl : lv_has ls 4 [(3, .int (nI k2)), (1, .long (digL z.2.2.2.2.2.2.2.2.1 z.2.2.2.2.2.2.2.2.2.1 z.2.2.2.2.2.2.2.2.2.2 (digW z.2.2.2.2.2.2.2.1 z.2.2.2.2.2.1 (mixD (mixD (mixD (mixD (mixD (mixD (mixD (mixD 8399 z.1) (nI z.2.2.2.2.2.1)) (sumW z.2.2.2.2.2.2.2.1 z.2.2.2.2.2.1)) ((wgS z.2.2.2.2.2.2.2.1 z.2.2.1 z.2.2.2.1 z.2.2.2.2.1 z.1 z.2.2.2.2.2.1).2.2)) (nI (cntB (sumB z.2.2.2.2.2.2.2.1 z.2.2.2.2.2.1) 4096))) (nI (lmS (sumB z.2.2.2.2.2.2.2.1 z.2.2.2.2.2.1) 4095 1))) (tcGo z.2.2.2.2.2.2.2.1 z.2.2.2.2.2.1 z.2.2.1 (wgS z.2.2.2.2.2.2.2.1 0 0 0 z.1 z.2.2.2.2.2.1).2.2 200 1 z.1)) (nI z.2.2.2.2.2.2.1)) z.2.2.2.2.2.1) k2)), (0, .ref m0)]), W p l e rmkX8_digest s m args below meth c H locs 0 0 (MQ below (kQlx D (digL z.2.2.2.2.2.2.2.2.1 z.2.2.2.2.2.2.2.2.2.1 z.2.2.2.2.2.2.2.2.2.2 (digW z.2.2.2.2.2.2.2.1 z.2.2.2.2.2.1 (mixD (mixD (mixD (mixD (mixD (mixD (mixD (mixD 8399 z.1) (nI z.2.2.2.2.2.1)) (sumW z.2.2.2.2.2.2.2.1 z.2.2.2.2.2.1)) ((wgS z.2.2.2.2.2.2.2.1 z.2.2.1 z.2.2.2.1 z.2.2.2.2.1 z.1 z.2.2.2.2.2.1).2.2)) (nI (cntB (sumB z.2.2.2.2.2.2.2.1 z.2.2.2.2.2.1) 4096))) (nI (lmS (sumB z.2.2.2.2.2.2.2.1 z.2.2.2.2.2.1) 4095 1))) (tcGo z.2.2.2.2.2.2.2.1 z.2.2.2.2.2.1 z.2.2.1 (wgS z.2.2.2.2.2.2.2.1 0 0 0 z.1 z.2.2.2.2.2.1).2.2 200 1 z.1)) (nI z.2.2.2.2.2.2.1)) z.2.2.2.2.2.1) z.2.2.2.2.2.2.1) (fun (u9 : Int32 × Int32) => [(m0, .inr (8, [.ref m1, .ref m2, .int (nI sm), .ref m3, .int (nI ln), .int 0, .ref m4, .int u9.1, .int u9.2, .ref m5, .int (nI sp), .ref m6, .int (nI tm)])), (m1, .inl (cI, 43, .inl (zArr z))), (m5, .inl (cZ, 4096, .inl (bI (sumB z.2.2.2.2.2.2.2.1 z.2.2.2.2.2.1))))]) A) args s 0 0 A) (F0 m 162 ls []) := by
          intro fuel
          induction fuel with
          | zero => intro k2 jv jk hk2 hm; exact absurd hm (Nat.not_lt_zero _)
          | succ fuel ih162 =>
            intro k2 jv jk hk2 hm H locs hP hD hS ls hl
            refine lv_iload_n hx hb dX8_digest_162 rfl (lv_at hl 0 rfl) ?_
            refine lv_aload_n hx hb dX8_digest_163 rfl (lv_at hl 2 rfl) ?_
            refine va_get (D := D) (ci := 8) (v := .ref m1) (C := RX8) (T := TX8) (N := 13) hx hb hts inX8_digest_8 hown hK hP 1 rfl rfl 0 (by decide) (hts (Cond.fieldLink RX8 7 "WeighingConverterModel" "z" "[I") (List.mem_of_getElem? (i := 4) rfl)) (fun _ h9 => h9) rfl dX8_digest_164 ?_
            refine lv_bipush (v := 6) hx hb dX8_digest_167 (by decide) ?_
            refine k_iald (k := 6) hx hb hK hP 2 0 rfl rfl (by omega) (by decide) dX8_digest_169 ?_
            refine k_topi (y := nI z.2.2.2.2.2.2.1) rfl ?_
            refine lv_icmp_ge (tgt := 234) hx hb dX8_digest_170 (by decide) (fun c_170 => ?_) (fun c_170 => ?_)
            · have c_170 : z.2.2.2.2.2.2.1 ≤ k2 := (nI_leI (a := z.2.2.2.2.2.2.1) (b := k2) (by omega) (by omega)).mp c_170
              refine lv_lload_n hx hb dX8_digest_234 rfl (lv_at hl 1 rfl) ?_
              have hP9 := hP.sub (ws' := [(m0, .inr (8, [.ref m1, .ref m2, .int (nI sm), .ref m3, .int (nI ln), .int 0, .ref m4, .int jv, .int jk, .ref m5, .int (nI sp), .ref m6, .int (nI tm)])), (m1, .inl (cI, 43, .inl (zArr z))), (m5, .inl (cZ, 4096, .inl (bI (sumB z.2.2.2.2.2.2.2.1 z.2.2.2.2.2.1))))]) [1, 2, 0] rfl
              have hD9 := hD.sub (ws' := [(m0, .inr (8, [.ref m1, .ref m2, .int (nI sm), .ref m3, .int (nI ln), .int 0, .ref m4, .int jv, .int jk, .ref m5, .int (nI sp), .ref m6, .int (nI tm)])), (m1, .inl (cI, 43, .inl (zArr z))), (m5, .inl (cZ, 4096, .inl (bI (sumB z.2.2.2.2.2.2.2.1 z.2.2.2.2.2.1))))]) [1, 2, 0] (by decide) rfl
              exact kr_lx (v := digL z.2.2.2.2.2.2.2.2.1 z.2.2.2.2.2.2.2.2.2.1 z.2.2.2.2.2.2.2.2.2.2 (digW z.2.2.2.2.2.2.2.1 z.2.2.2.2.2.1 (mixD (mixD (mixD (mixD (mixD (mixD (mixD (mixD 8399 z.1) (nI z.2.2.2.2.2.1)) (sumW z.2.2.2.2.2.2.2.1 z.2.2.2.2.2.1)) ((wgS z.2.2.2.2.2.2.2.1 z.2.2.1 z.2.2.2.1 z.2.2.2.2.1 z.1 z.2.2.2.2.2.1).2.2)) (nI (cntB (sumB z.2.2.2.2.2.2.2.1 z.2.2.2.2.2.1) 4096))) (nI (lmS (sumB z.2.2.2.2.2.2.2.1 z.2.2.2.2.2.1) 4095 1))) (tcGo z.2.2.2.2.2.2.2.1 z.2.2.2.2.2.1 z.2.2.1 (wgS z.2.2.2.2.2.2.2.1 0 0 0 z.1 z.2.2.2.2.2.1).2.2 200 1 z.1)) (nI z.2.2.2.2.2.2.1)) z.2.2.2.2.2.1) k2) (u := (jv, jk)) hx hb hr hlocks hP9 hD9 hS (by rw [show k2 = z.2.2.2.2.2.2.1 from by omega]) dX8_digest_235
            · have c_170 : ¬ z.2.2.2.2.2.2.1 ≤ k2 := fun h => c_170 ((nI_leI (a := z.2.2.2.2.2.2.1) (b := k2) (by omega) (by omega)).mpr h)
              refine lv_ldc2 hx hb hown (hts (Cond.constantLong RX8 132 (31)) (List.mem_of_getElem? (i := 3) rfl)) dX8_digest_173 ?_
              refine lv_lload_n hx hb dX8_digest_176 rfl (lv_at hl 1 rfl) ?_
              refine lv_lmul hx hb dX8_digest_177 ?_
              refine lv_aload_n hx hb dX8_digest_178 rfl (lv_at hl 2 rfl) ?_
              refine va_get (D := D) (ci := 8) (v := .ref m1) (C := RX8) (T := TX8) (N := 13) hx hb hts inX8_digest_8 hown hK hP 1 rfl rfl 0 (by decide) (hts (Cond.fieldLink RX8 7 "WeighingConverterModel" "z" "[I") (List.mem_of_getElem? (i := 4) rfl)) (fun _ h9 => h9) rfl dX8_digest_179 ?_
              refine lv_bipush (v := 19) hx hb dX8_digest_182 (by decide) ?_
              refine lv_iconst (v := 3) hx hb dX8_digest_184 (by decide) ?_
              refine lv_iload_n hx hb dX8_digest_185 rfl (lv_at hl 0 rfl) ?_
              refine lv_imul hx hb dX8_digest_186 ?_
              refine k_topi (y := nI (3 * k2)) (pk_mul 3 k2) ?_
              refine lv_iadd hx hb dX8_digest_187 ?_
              refine k_topi (y := nI (19 + (3 * k2))) (nI_add 19 (3 * k2)) ?_
              refine lv_iconst (v := 2) hx hb dX8_digest_188 (by decide) ?_
              refine lv_iadd hx hb dX8_digest_189 ?_
              refine k_topi (y := nI ((19 + (3 * k2)) + 2)) (nI_add (19 + (3 * k2)) 2) ?_
              refine k_iald (k := (19 + (3 * k2)) + 2) hx hb hK hP 2 0 rfl rfl (by omega) (by decide) dX8_digest_190 ?_
              refine k_topi (y := z.2.2.2.2.2.2.2.2.2.2 k2) (zArr_l2 (by omega)) ?_
              refine lv_i2l hx hb dX8_digest_191 rfl ?_
              refine lv_ladd hx hb dX8_digest_192 ?_
              refine k_topl (y := mixD (digL z.2.2.2.2.2.2.2.2.1 z.2.2.2.2.2.2.2.2.2.1 z.2.2.2.2.2.2.2.2.2.2 (digW z.2.2.2.2.2.2.2.1 z.2.2.2.2.2.1 (mixD (mixD (mixD (mixD (mixD (mixD (mixD (mixD 8399 z.1) (nI z.2.2.2.2.2.1)) (sumW z.2.2.2.2.2.2.2.1 z.2.2.2.2.2.1)) ((wgS z.2.2.2.2.2.2.2.1 z.2.2.1 z.2.2.2.1 z.2.2.2.2.1 z.1 z.2.2.2.2.2.1).2.2)) (nI (cntB (sumB z.2.2.2.2.2.2.2.1 z.2.2.2.2.2.1) 4096))) (nI (lmS (sumB z.2.2.2.2.2.2.2.1 z.2.2.2.2.2.1) 4095 1))) (tcGo z.2.2.2.2.2.2.2.1 z.2.2.2.2.2.1 z.2.2.1 (wgS z.2.2.2.2.2.2.2.1 0 0 0 z.1 z.2.2.2.2.2.1).2.2 200 1 z.1)) (nI z.2.2.2.2.2.2.1)) z.2.2.2.2.2.1) k2) (z.2.2.2.2.2.2.2.2.2.2 k2)) rfl ?_
              refine lv_lstore_n (lv' := [(1, .long (mixD (digL z.2.2.2.2.2.2.2.2.1 z.2.2.2.2.2.2.2.2.2.1 z.2.2.2.2.2.2.2.2.2.2 (digW z.2.2.2.2.2.2.2.1 z.2.2.2.2.2.1 (mixD (mixD (mixD (mixD (mixD (mixD (mixD (mixD 8399 z.1) (nI z.2.2.2.2.2.1)) (sumW z.2.2.2.2.2.2.2.1 z.2.2.2.2.2.1)) ((wgS z.2.2.2.2.2.2.2.1 z.2.2.1 z.2.2.2.1 z.2.2.2.2.1 z.1 z.2.2.2.2.2.1).2.2)) (nI (cntB (sumB z.2.2.2.2.2.2.2.1 z.2.2.2.2.2.1) 4096))) (nI (lmS (sumB z.2.2.2.2.2.2.2.1 z.2.2.2.2.2.1) 4095 1))) (tcGo z.2.2.2.2.2.2.2.1 z.2.2.2.2.2.1 z.2.2.1 (wgS z.2.2.2.2.2.2.2.1 0 0 0 z.1 z.2.2.2.2.2.1).2.2 200 1 z.1)) (nI z.2.2.2.2.2.2.1)) z.2.2.2.2.2.1) k2) (z.2.2.2.2.2.2.2.2.2.2 k2))), (3, .int (nI k2)), (0, .ref m0)]) hx hb dX8_digest_193 rfl hl (by decide) rfl (fun ls hl => ?_)
              refine lv_ldc2 hx hb hown (hts (Cond.constantLong RX8 132 (31)) (List.mem_of_getElem? (i := 3) rfl)) dX8_digest_194 ?_
              refine lv_lload_n hx hb dX8_digest_197 rfl (lv_at hl 0 rfl) ?_
              refine lv_lmul hx hb dX8_digest_198 ?_
              refine lv_aload_n hx hb dX8_digest_199 rfl (lv_at hl 2 rfl) ?_
              refine va_get (D := D) (ci := 8) (v := .ref m1) (C := RX8) (T := TX8) (N := 13) hx hb hts inX8_digest_8 hown hK hP 1 rfl rfl 0 (by decide) (hts (Cond.fieldLink RX8 7 "WeighingConverterModel" "z" "[I") (List.mem_of_getElem? (i := 4) rfl)) (fun _ h9 => h9) rfl dX8_digest_200 ?_
              refine lv_bipush (v := 19) hx hb dX8_digest_203 (by decide) ?_
              refine lv_iconst (v := 3) hx hb dX8_digest_205 (by decide) ?_
              refine lv_iload_n hx hb dX8_digest_206 rfl (lv_at hl 1 rfl) ?_
              refine lv_imul hx hb dX8_digest_207 ?_
              refine k_topi (y := nI (3 * k2)) (pk_mul 3 k2) ?_
              refine lv_iadd hx hb dX8_digest_208 ?_
              refine k_topi (y := nI (19 + (3 * k2))) (nI_add 19 (3 * k2)) ?_
              refine lv_iconst (v := 1) hx hb dX8_digest_209 (by decide) ?_
              refine lv_iadd hx hb dX8_digest_210 ?_
              refine k_topi (y := nI ((19 + (3 * k2)) + 1)) (nI_add (19 + (3 * k2)) 1) ?_
              refine k_iald (k := (19 + (3 * k2)) + 1) hx hb hK hP 2 0 rfl rfl (by omega) (by decide) dX8_digest_211 ?_
              refine k_topi (y := z.2.2.2.2.2.2.2.2.2.1 k2) (zArr_l1 (by omega)) ?_
              refine lv_i2l hx hb dX8_digest_212 rfl ?_
              refine lv_ladd hx hb dX8_digest_213 ?_
              refine k_topl (y := mixD (mixD (digL z.2.2.2.2.2.2.2.2.1 z.2.2.2.2.2.2.2.2.2.1 z.2.2.2.2.2.2.2.2.2.2 (digW z.2.2.2.2.2.2.2.1 z.2.2.2.2.2.1 (mixD (mixD (mixD (mixD (mixD (mixD (mixD (mixD 8399 z.1) (nI z.2.2.2.2.2.1)) (sumW z.2.2.2.2.2.2.2.1 z.2.2.2.2.2.1)) ((wgS z.2.2.2.2.2.2.2.1 z.2.2.1 z.2.2.2.1 z.2.2.2.2.1 z.1 z.2.2.2.2.2.1).2.2)) (nI (cntB (sumB z.2.2.2.2.2.2.2.1 z.2.2.2.2.2.1) 4096))) (nI (lmS (sumB z.2.2.2.2.2.2.2.1 z.2.2.2.2.2.1) 4095 1))) (tcGo z.2.2.2.2.2.2.2.1 z.2.2.2.2.2.1 z.2.2.1 (wgS z.2.2.2.2.2.2.2.1 0 0 0 z.1 z.2.2.2.2.2.1).2.2 200 1 z.1)) (nI z.2.2.2.2.2.2.1)) z.2.2.2.2.2.1) k2) (z.2.2.2.2.2.2.2.2.2.2 k2)) (z.2.2.2.2.2.2.2.2.2.1 k2)) rfl ?_
              refine lv_lstore_n (lv' := [(1, .long (mixD (mixD (digL z.2.2.2.2.2.2.2.2.1 z.2.2.2.2.2.2.2.2.2.1 z.2.2.2.2.2.2.2.2.2.2 (digW z.2.2.2.2.2.2.2.1 z.2.2.2.2.2.1 (mixD (mixD (mixD (mixD (mixD (mixD (mixD (mixD 8399 z.1) (nI z.2.2.2.2.2.1)) (sumW z.2.2.2.2.2.2.2.1 z.2.2.2.2.2.1)) ((wgS z.2.2.2.2.2.2.2.1 z.2.2.1 z.2.2.2.1 z.2.2.2.2.1 z.1 z.2.2.2.2.2.1).2.2)) (nI (cntB (sumB z.2.2.2.2.2.2.2.1 z.2.2.2.2.2.1) 4096))) (nI (lmS (sumB z.2.2.2.2.2.2.2.1 z.2.2.2.2.2.1) 4095 1))) (tcGo z.2.2.2.2.2.2.2.1 z.2.2.2.2.2.1 z.2.2.1 (wgS z.2.2.2.2.2.2.2.1 0 0 0 z.1 z.2.2.2.2.2.1).2.2 200 1 z.1)) (nI z.2.2.2.2.2.2.1)) z.2.2.2.2.2.1) k2) (z.2.2.2.2.2.2.2.2.2.2 k2)) (z.2.2.2.2.2.2.2.2.2.1 k2))), (3, .int (nI k2)), (0, .ref m0)]) hx hb dX8_digest_214 rfl hl (by decide) rfl (fun ls hl => ?_)
              refine lv_ldc2 hx hb hown (hts (Cond.constantLong RX8 132 (31)) (List.mem_of_getElem? (i := 3) rfl)) dX8_digest_215 ?_
              refine lv_lload_n hx hb dX8_digest_218 rfl (lv_at hl 0 rfl) ?_
              refine lv_lmul hx hb dX8_digest_219 ?_
              refine lv_aload_n hx hb dX8_digest_220 rfl (lv_at hl 2 rfl) ?_
              refine lv_iload_n hx hb dX8_digest_221 rfl (lv_at hl 1 rfl) ?_
              refine kv_i (As := [.int (nI k2)]) (rest := [.long (31 * (mixD (mixD (digL z.2.2.2.2.2.2.2.2.1 z.2.2.2.2.2.2.2.2.2.1 z.2.2.2.2.2.2.2.2.2.2 (digW z.2.2.2.2.2.2.2.1 z.2.2.2.2.2.1 (mixD (mixD (mixD (mixD (mixD (mixD (mixD (mixD 8399 z.1) (nI z.2.2.2.2.2.1)) (sumW z.2.2.2.2.2.2.2.1 z.2.2.2.2.2.1)) ((wgS z.2.2.2.2.2.2.2.1 z.2.2.1 z.2.2.2.1 z.2.2.2.2.1 z.1 z.2.2.2.2.2.1).2.2)) (nI (cntB (sumB z.2.2.2.2.2.2.2.1 z.2.2.2.2.2.1) 4096))) (nI (lmS (sumB z.2.2.2.2.2.2.2.1 z.2.2.2.2.2.1) 4095 1))) (tcGo z.2.2.2.2.2.2.2.1 z.2.2.2.2.2.1 z.2.2.1 (wgS z.2.2.2.2.2.2.2.1 0 0 0 z.1 z.2.2.2.2.2.1).2.2 200 1 z.1)) (nI z.2.2.2.2.2.2.1)) z.2.2.2.2.2.1) k2) (z.2.2.2.2.2.2.2.2.2.2 k2)) (z.2.2.2.2.2.2.2.2.2.1 k2)))]) (wr := [(m5, .inl (cZ, 4096, .inl (bI (sumB z.2.2.2.2.2.2.2.1 z.2.2.2.2.2.1))))]) ⟨hx, hb, hml, hown, hts⟩ (kX8_errorOf l D H.size cI cC cJ cZ cQ m0 m1 m2 m3 m4 m5 m6 sm ln sp tm 0 jv jk z k2 (by first | assumption | omega)) (cwV 1 hts gX8_digest_X8_errorOf rfl rfl rfl (by decide +kernel) ⟨Nat.le_of_ble_eq_true rfl, Nat.le_of_ble_eq_true rfl⟩) hP hD hK hS hA hN [1, 2] [0] rfl rfl (by decide) (by decide) (by decide) 1 8 rfl rfl rfl rfl hl.1 rfl (Nat.le_of_ble_eq_true rfl) dX8_digest_222 ⟨Nat.zero_le _, Nat.zero_le _⟩ (fun H locs hP hD hS => ?_)
              have hP : va_P D vwCl [(m5, .inl (cZ, 4096, .inl (bI (sumB z.2.2.2.2.2.2.2.1 z.2.2.2.2.2.1)))), (m0, .inr (8, [.ref m1, .ref m2, .int (nI sm), .ref m3, .int (nI ln), .int 0, .ref m4, .int jv, .int jk, .ref m5, .int (nI sp), .ref m6, .int (nI tm)])), (m1, .inl (cI, 43, .inl (zArr z)))] H := hP
              have hD : va_D A [(m5, .inl (cZ, 4096, .inl (bI (sumB z.2.2.2.2.2.2.2.1 z.2.2.2.2.2.1)))), (m0, .inr (8, [.ref m1, .ref m2, .int (nI sm), .ref m3, .int (nI ln), .int 0, .ref m4, .int jv, .int jk, .ref m5, .int (nI sp), .ref m6, .int (nI tm)])), (m1, .inl (cI, 43, .inl (zArr z)))] := hD
              refine lv_i2l hx hb dX8_digest_225 rfl ?_
              refine lv_ladd hx hb dX8_digest_226 ?_
              refine k_topl (y := mixD (mixD (mixD (digL z.2.2.2.2.2.2.2.2.1 z.2.2.2.2.2.2.2.2.2.1 z.2.2.2.2.2.2.2.2.2.2 (digW z.2.2.2.2.2.2.2.1 z.2.2.2.2.2.1 (mixD (mixD (mixD (mixD (mixD (mixD (mixD (mixD 8399 z.1) (nI z.2.2.2.2.2.1)) (sumW z.2.2.2.2.2.2.2.1 z.2.2.2.2.2.1)) ((wgS z.2.2.2.2.2.2.2.1 z.2.2.1 z.2.2.2.1 z.2.2.2.2.1 z.1 z.2.2.2.2.2.1).2.2)) (nI (cntB (sumB z.2.2.2.2.2.2.2.1 z.2.2.2.2.2.1) 4096))) (nI (lmS (sumB z.2.2.2.2.2.2.2.1 z.2.2.2.2.2.1) 4095 1))) (tcGo z.2.2.2.2.2.2.2.1 z.2.2.2.2.2.1 z.2.2.1 (wgS z.2.2.2.2.2.2.2.1 0 0 0 z.1 z.2.2.2.2.2.1).2.2 200 1 z.1)) (nI z.2.2.2.2.2.2.1)) z.2.2.2.2.2.1) k2) (z.2.2.2.2.2.2.2.2.2.2 k2)) (z.2.2.2.2.2.2.2.2.2.1 k2)) (16 * z.2.2.2.2.2.2.2.2.2.2 k2 - z.2.2.2.2.2.2.2.2.1 k2)) rfl ?_
              refine lv_lstore_n (lv' := [(1, .long (mixD (mixD (mixD (digL z.2.2.2.2.2.2.2.2.1 z.2.2.2.2.2.2.2.2.2.1 z.2.2.2.2.2.2.2.2.2.2 (digW z.2.2.2.2.2.2.2.1 z.2.2.2.2.2.1 (mixD (mixD (mixD (mixD (mixD (mixD (mixD (mixD 8399 z.1) (nI z.2.2.2.2.2.1)) (sumW z.2.2.2.2.2.2.2.1 z.2.2.2.2.2.1)) ((wgS z.2.2.2.2.2.2.2.1 z.2.2.1 z.2.2.2.1 z.2.2.2.2.1 z.1 z.2.2.2.2.2.1).2.2)) (nI (cntB (sumB z.2.2.2.2.2.2.2.1 z.2.2.2.2.2.1) 4096))) (nI (lmS (sumB z.2.2.2.2.2.2.2.1 z.2.2.2.2.2.1) 4095 1))) (tcGo z.2.2.2.2.2.2.2.1 z.2.2.2.2.2.1 z.2.2.1 (wgS z.2.2.2.2.2.2.2.1 0 0 0 z.1 z.2.2.2.2.2.1).2.2 200 1 z.1)) (nI z.2.2.2.2.2.2.1)) z.2.2.2.2.2.1) k2) (z.2.2.2.2.2.2.2.2.2.2 k2)) (z.2.2.2.2.2.2.2.2.2.1 k2)) (16 * z.2.2.2.2.2.2.2.2.2.2 k2 - z.2.2.2.2.2.2.2.2.1 k2))), (3, .int (nI k2)), (0, .ref m0)]) hx hb dX8_digest_227 rfl hl (by decide) rfl (fun ls hl => ?_)
              refine lv_iinc (v := nI (k2 + 1)) (lv' := [(3, .int (nI (k2 + 1))), (1, .long (mixD (mixD (mixD (digL z.2.2.2.2.2.2.2.2.1 z.2.2.2.2.2.2.2.2.2.1 z.2.2.2.2.2.2.2.2.2.2 (digW z.2.2.2.2.2.2.2.1 z.2.2.2.2.2.1 (mixD (mixD (mixD (mixD (mixD (mixD (mixD (mixD 8399 z.1) (nI z.2.2.2.2.2.1)) (sumW z.2.2.2.2.2.2.2.1 z.2.2.2.2.2.1)) ((wgS z.2.2.2.2.2.2.2.1 z.2.2.1 z.2.2.2.1 z.2.2.2.2.1 z.1 z.2.2.2.2.2.1).2.2)) (nI (cntB (sumB z.2.2.2.2.2.2.2.1 z.2.2.2.2.2.1) 4096))) (nI (lmS (sumB z.2.2.2.2.2.2.2.1 z.2.2.2.2.2.1) 4095 1))) (tcGo z.2.2.2.2.2.2.2.1 z.2.2.2.2.2.1 z.2.2.1 (wgS z.2.2.2.2.2.2.2.1 0 0 0 z.1 z.2.2.2.2.2.1).2.2 200 1 z.1)) (nI z.2.2.2.2.2.2.1)) z.2.2.2.2.2.1) k2) (z.2.2.2.2.2.2.2.2.2.2 k2)) (z.2.2.2.2.2.2.2.2.2.1 k2)) (16 * z.2.2.2.2.2.2.2.2.2.2 k2 - z.2.2.2.2.2.2.2.2.1 k2))), (0, .ref m0)]) hx hb dX8_digest_228 hl (k := 1) rfl (by exact k_inc k2) (by decide) rfl (fun ls hl => ?_)
              refine lv_goto (tgt := 162) hx hb dX8_digest_231 (by decide) ?_
              exact ih162 (k2 + 1) jv jk (by first | assumption | omega) (by omega) _ _ (hP.sub [0, 1, 2] rfl) (hD.sub [0, 1, 2] (by decide) rfl) hS _ (lv_sub hl [0, 1, 2] rfl)
        exact J162 (z.2.2.2.2.2.2.1 - 0 + 1) 0 yv yk (by first | assumption | omega) (Nat.lt_succ_self _) _ _ (hP.sub [0, 1, 2] rfl) (hD.sub [0, 1, 2] (by decide) rfl) hS _ (lv_sub hl [0, 1, 2] rfl)
      · have c_121 : ¬ z.2.2.2.2.2.1 ≤ k := fun h => c_121 ((nI_leI (a := z.2.2.2.2.2.1) (b := k) (by omega) (by omega)).mpr h)
        refine lv_ldc2 hx hb hown (hts (Cond.constantLong RX8 132 (31)) (List.mem_of_getElem? (i := 3) rfl)) dX8_digest_124 ?_
        refine lv_lload_n hx hb dX8_digest_127 rfl (lv_at hl 1 rfl) ?_
        refine lv_lmul hx hb dX8_digest_128 ?_
        refine lv_aload_n hx hb dX8_digest_129 rfl (lv_at hl 2 rfl) ?_
        refine va_get (D := D) (ci := 8) (v := .ref m1) (C := RX8) (T := TX8) (N := 13) hx hb hts inX8_digest_8 hown hK hP 1 rfl rfl 0 (by decide) (hts (Cond.fieldLink RX8 7 "WeighingConverterModel" "z" "[I") (List.mem_of_getElem? (i := 4) rfl)) (fun _ h9 => h9) rfl dX8_digest_130 ?_
        refine lv_bipush (v := 7) hx hb dX8_digest_133 (by decide) ?_
        refine lv_iload_n hx hb dX8_digest_135 rfl (lv_at hl 0 rfl) ?_
        refine lv_iadd hx hb dX8_digest_136 ?_
        refine k_topi (y := nI (7 + k)) (nI_add 7 k) ?_
        refine k_iald (k := 7 + k) hx hb hK hP 2 0 rfl rfl (by omega) (by decide) dX8_digest_137 ?_
        refine k_topi (y := z.2.2.2.2.2.2.2.1 k) (zArr_w (by omega)) ?_
        refine lv_i2l hx hb dX8_digest_138 rfl ?_
        refine lv_ladd hx hb dX8_digest_139 ?_
        refine k_topl (y := mixD (digW z.2.2.2.2.2.2.2.1 z.2.2.2.2.2.1 (mixD (mixD (mixD (mixD (mixD (mixD (mixD (mixD 8399 z.1) (nI z.2.2.2.2.2.1)) (sumW z.2.2.2.2.2.2.2.1 z.2.2.2.2.2.1)) ((wgS z.2.2.2.2.2.2.2.1 z.2.2.1 z.2.2.2.1 z.2.2.2.2.1 z.1 z.2.2.2.2.2.1).2.2)) (nI (cntB (sumB z.2.2.2.2.2.2.2.1 z.2.2.2.2.2.1) 4096))) (nI (lmS (sumB z.2.2.2.2.2.2.2.1 z.2.2.2.2.2.1) 4095 1))) (tcGo z.2.2.2.2.2.2.2.1 z.2.2.2.2.2.1 z.2.2.1 (wgS z.2.2.2.2.2.2.2.1 0 0 0 z.1 z.2.2.2.2.2.1).2.2 200 1 z.1)) (nI z.2.2.2.2.2.2.1)) k) (z.2.2.2.2.2.2.2.1 k)) rfl ?_
        refine lv_lstore_n (lv' := [(1, .long (mixD (digW z.2.2.2.2.2.2.2.1 z.2.2.2.2.2.1 (mixD (mixD (mixD (mixD (mixD (mixD (mixD (mixD 8399 z.1) (nI z.2.2.2.2.2.1)) (sumW z.2.2.2.2.2.2.2.1 z.2.2.2.2.2.1)) ((wgS z.2.2.2.2.2.2.2.1 z.2.2.1 z.2.2.2.1 z.2.2.2.2.1 z.1 z.2.2.2.2.2.1).2.2)) (nI (cntB (sumB z.2.2.2.2.2.2.2.1 z.2.2.2.2.2.1) 4096))) (nI (lmS (sumB z.2.2.2.2.2.2.2.1 z.2.2.2.2.2.1) 4095 1))) (tcGo z.2.2.2.2.2.2.2.1 z.2.2.2.2.2.1 z.2.2.1 (wgS z.2.2.2.2.2.2.2.1 0 0 0 z.1 z.2.2.2.2.2.1).2.2 200 1 z.1)) (nI z.2.2.2.2.2.2.1)) k) (z.2.2.2.2.2.2.2.1 k))), (3, .int (nI k)), (0, .ref m0)]) hx hb dX8_digest_140 rfl hl (by decide) rfl (fun ls hl => ?_)
        refine lv_ldc2 hx hb hown (hts (Cond.constantLong RX8 132 (31)) (List.mem_of_getElem? (i := 3) rfl)) dX8_digest_141 ?_
        refine lv_lload_n hx hb dX8_digest_144 rfl (lv_at hl 0 rfl) ?_
        refine lv_lmul hx hb dX8_digest_145 ?_
        refine lv_aload_n hx hb dX8_digest_146 rfl (lv_at hl 2 rfl) ?_
        refine lv_iload_n hx hb dX8_digest_147 rfl (lv_at hl 1 rfl) ?_
        refine kv_ix (As := [.int (nI k)]) (rest := [.long (31 * (mixD (digW z.2.2.2.2.2.2.2.1 z.2.2.2.2.2.1 (mixD (mixD (mixD (mixD (mixD (mixD (mixD (mixD 8399 z.1) (nI z.2.2.2.2.2.1)) (sumW z.2.2.2.2.2.2.2.1 z.2.2.2.2.2.1)) ((wgS z.2.2.2.2.2.2.2.1 z.2.2.1 z.2.2.2.1 z.2.2.2.2.1 z.1 z.2.2.2.2.2.1).2.2)) (nI (cntB (sumB z.2.2.2.2.2.2.2.1 z.2.2.2.2.2.1) 4096))) (nI (lmS (sumB z.2.2.2.2.2.2.2.1 z.2.2.2.2.2.1) 4095 1))) (tcGo z.2.2.2.2.2.2.2.1 z.2.2.2.2.2.1 z.2.2.1 (wgS z.2.2.2.2.2.2.2.1 0 0 0 z.1 z.2.2.2.2.2.1).2.2 200 1 z.1)) (nI z.2.2.2.2.2.2.1)) k) (z.2.2.2.2.2.2.2.1 k)))]) (wr := [(m5, .inl (cZ, 4096, .inl (bI (sumB z.2.2.2.2.2.2.2.1 z.2.2.2.2.2.1))))]) ⟨hx, hb, hml, hown, hts⟩ (kX8_mendedBy l D H.size cI cC cJ cZ cQ m0 m1 m2 m3 m4 m5 m6 sm ln sp tm 0 yv yk z k (by first | assumption | omega)) (cwV 1 hts gX8_digest_X8_mendedBy rfl rfl rfl (by decide +kernel) ⟨Nat.le_of_ble_eq_true rfl, Nat.le_of_ble_eq_true rfl⟩) hP hD hK hS hA hN [1, 2] [0] rfl rfl (by decide) (by decide) (by decide) 1 8 rfl rfl rfl rfl hl.1 rfl (Nat.le_of_ble_eq_true rfl) dX8_digest_148 ⟨Nat.zero_le _, Nat.zero_le _⟩ (fun u_4 H locs hP hD hS => ?_)
        have hP : va_P D vwCl [(m5, .inl (cZ, 4096, .inl (bI (sumB z.2.2.2.2.2.2.2.1 z.2.2.2.2.2.1)))), (m0, .inr (8, [.ref m1, .ref m2, .int (nI sm), .ref m3, .int (nI ln), .int 0, .ref m4, .int u_4.1, .int u_4.2, .ref m5, .int (nI sp), .ref m6, .int (nI tm)])), (m1, .inl (cI, 43, .inl (zArr z)))] H := hP
        have hD : va_D A [(m5, .inl (cZ, 4096, .inl (bI (sumB z.2.2.2.2.2.2.2.1 z.2.2.2.2.2.1)))), (m0, .inr (8, [.ref m1, .ref m2, .int (nI sm), .ref m3, .int (nI ln), .int 0, .ref m4, .int u_4.1, .int u_4.2, .ref m5, .int (nI sp), .ref m6, .int (nI tm)])), (m1, .inl (cI, 43, .inl (zArr z)))] := hD
        refine lv_i2l hx hb dX8_digest_151 rfl ?_
        refine lv_ladd hx hb dX8_digest_152 ?_
        refine k_topl (y := mixD (mixD (digW z.2.2.2.2.2.2.2.1 z.2.2.2.2.2.1 (mixD (mixD (mixD (mixD (mixD (mixD (mixD (mixD 8399 z.1) (nI z.2.2.2.2.2.1)) (sumW z.2.2.2.2.2.2.2.1 z.2.2.2.2.2.1)) ((wgS z.2.2.2.2.2.2.2.1 z.2.2.1 z.2.2.2.1 z.2.2.2.2.1 z.1 z.2.2.2.2.2.1).2.2)) (nI (cntB (sumB z.2.2.2.2.2.2.2.1 z.2.2.2.2.2.1) 4096))) (nI (lmS (sumB z.2.2.2.2.2.2.2.1 z.2.2.2.2.2.1) 4095 1))) (tcGo z.2.2.2.2.2.2.2.1 z.2.2.2.2.2.1 z.2.2.1 (wgS z.2.2.2.2.2.2.2.1 0 0 0 z.1 z.2.2.2.2.2.1).2.2 200 1 z.1)) (nI z.2.2.2.2.2.2.1)) k) (z.2.2.2.2.2.2.2.1 k)) (nI (mdC z.2.2.2.2.2.2.2.1 z.2.2.2.2.2.1 k 256))) rfl ?_
        refine lv_lstore_n (lv' := [(1, .long (mixD (mixD (digW z.2.2.2.2.2.2.2.1 z.2.2.2.2.2.1 (mixD (mixD (mixD (mixD (mixD (mixD (mixD (mixD 8399 z.1) (nI z.2.2.2.2.2.1)) (sumW z.2.2.2.2.2.2.2.1 z.2.2.2.2.2.1)) ((wgS z.2.2.2.2.2.2.2.1 z.2.2.1 z.2.2.2.1 z.2.2.2.2.1 z.1 z.2.2.2.2.2.1).2.2)) (nI (cntB (sumB z.2.2.2.2.2.2.2.1 z.2.2.2.2.2.1) 4096))) (nI (lmS (sumB z.2.2.2.2.2.2.2.1 z.2.2.2.2.2.1) 4095 1))) (tcGo z.2.2.2.2.2.2.2.1 z.2.2.2.2.2.1 z.2.2.1 (wgS z.2.2.2.2.2.2.2.1 0 0 0 z.1 z.2.2.2.2.2.1).2.2 200 1 z.1)) (nI z.2.2.2.2.2.2.1)) k) (z.2.2.2.2.2.2.2.1 k)) (nI (mdC z.2.2.2.2.2.2.2.1 z.2.2.2.2.2.1 k 256)))), (3, .int (nI k)), (0, .ref m0)]) hx hb dX8_digest_153 rfl hl (by decide) rfl (fun ls hl => ?_)
        refine lv_iinc (v := nI (k + 1)) (lv' := [(3, .int (nI (k + 1))), (1, .long (mixD (mixD (digW z.2.2.2.2.2.2.2.1 z.2.2.2.2.2.1 (mixD (mixD (mixD (mixD (mixD (mixD (mixD (mixD 8399 z.1) (nI z.2.2.2.2.2.1)) (sumW z.2.2.2.2.2.2.2.1 z.2.2.2.2.2.1)) ((wgS z.2.2.2.2.2.2.2.1 z.2.2.1 z.2.2.2.1 z.2.2.2.2.1 z.1 z.2.2.2.2.2.1).2.2)) (nI (cntB (sumB z.2.2.2.2.2.2.2.1 z.2.2.2.2.2.1) 4096))) (nI (lmS (sumB z.2.2.2.2.2.2.2.1 z.2.2.2.2.2.1) 4095 1))) (tcGo z.2.2.2.2.2.2.2.1 z.2.2.2.2.2.1 z.2.2.1 (wgS z.2.2.2.2.2.2.2.1 0 0 0 z.1 z.2.2.2.2.2.1).2.2 200 1 z.1)) (nI z.2.2.2.2.2.2.1)) k) (z.2.2.2.2.2.2.2.1 k)) (nI (mdC z.2.2.2.2.2.2.2.1 z.2.2.2.2.2.1 k 256)))), (0, .ref m0)]) hx hb dX8_digest_154 hl (k := 1) rfl (by exact k_inc k) (by decide) rfl (fun ls hl => ?_)
        refine lv_goto (tgt := 114) hx hb dX8_digest_157 (by decide) ?_
        exact ih114 (k + 1) u_4.1 u_4.2 (by first | assumption | omega) (by omega) _ _ (hP.sub [0, 1, 2] rfl) (hD.sub [0, 1, 2] (by decide) rfl) hS _ (lv_sub hl [0, 1, 2] rfl)
  exact J114 (z.2.2.2.2.2.1 - 0 + 1) 0 u_1.1 u_1.2 (by first | assumption | omega) (Nat.lt_succ_self _) _ _ (hP.sub [0, 1, 2] rfl) (hD.sub [0, 1, 2] (by decide) rfl) hS _ (lv_sub hl [0, 1, 2] rfl)

abbrev rmkX8_sample_bad : Room := { frames := 1, cells := 0, slots := 0, locals := 22 }
set_option maxHeartbeats 4000000 in
set_option maxRecDepth 100000 in
theorem kX8_sample_bad (l : Launch) (D : va_G) (sz : Nat) (cI : ClassId) (cC : ClassId) (cJ : ClassId) (cZ : ClassId) (cQ : ClassId) (m0 : Nat) (m1 : Nat) (m2 : Nat) (m3 : Nat) (m4 : Nat) (m5 : Nat) (m6 : Nat) (sm : Nat) (ln : Nat) (sp : Nat) (tm : Nat) (th : Int32) (lf : Int32) (kp : Int32) (p1 : Int32) (p2 : Int32) (hbad : inM p1 0 65535 = 0 ∨ inM p2 1 99 = 0) : Met l yX8_sample wsX8_sample rmkX8_sample_bad (va_Pc [.ref m0, .int p1, .int p2] (kPre D sz [(m0, .inr (8, [.ref m1, .ref m2, .int (nI sm), .ref m3, .int (nI ln), .int th, .ref m4, .int lf, .int kp, .ref m5, .int (nI sp), .ref m6, .int (nI tm)]))] (kT cI cC cJ cZ cQ))) (kQi D 0 [(m0, .inr (8, [.ref m1, .ref m2, .int (nI sm), .ref m3, .int (nI ln), .int 1, .ref m4, .int lf, .int kp, .ref m5, .int (nI sp), .ref m6, .int (nI tm)]))] (va_A [(m0, .inr (8, [.ref m1, .ref m2, .int (nI sm), .ref m3, .int (nI ln), .int th, .ref m4, .int lf, .int kp, .ref m5, .int (nI sp), .ref m6, .int (nI tm)]))] sz)) 0 0 (va_A [(m0, .inr (8, [.ref m1, .ref m2, .int (nI sm), .ref m3, .int (nI ln), .int th, .ref m4, .int lf, .int kp, .ref m5, .int (nI sp), .ref m6, .int (nI tm)]))] sz) := by
  refine k_met (Qf := kQi D 0 [(m0, .inr (8, [.ref m1, .ref m2, .int (nI sm), .ref m3, .int (nI ln), .int 1, .ref m4, .int lf, .int kp, .ref m5, .int (nI sp), .ref m6, .int (nI tm)]))]) (cc := cX8_sample) (maxL := 4) (ret := (some .int)) (own := RX8) (by decide) rfl (Nat.le_of_ble_eq_true rfl) rfl ?_
  intro p e s m args below meth c ls A H locs hx hb hr hts hown hlocks hml hin hsz hP hK hD hA hS hN hl
  have hl : lv_has ls 4 [(0, .ref m0), (1, .int p1), (2, .int p2)] := hl
  refine lv_aload_n hx hb dX8_sample_0 rfl (lv_at hl 0 rfl) ?_
  refine lv_iload_n hx hb dX8_sample_1 rfl (lv_at hl 1 rfl) ?_
  refine lv_iconst (v := 0) hx hb dX8_sample_2 (by decide) ?_
  refine lv_ldc hx hb hown (hts (.constant RX8 48 (65535)) (List.mem_of_getElem? (i := 1) rfl)) dX8_sample_3 ?_
  refine ks_i0 (As := [.int p1, .int 0, .int 65535]) (rest := [.ref m0]) ⟨hx, hb, hml, hown, hts⟩ (kX8_in l p1 0 65535) (va_cwS 3 hts gX8_sample_X8_in rfl rfl rfl (by decide +kernel) ⟨Nat.le_of_ble_eq_true rfl, Nat.le_of_ble_eq_true rfl⟩) hP hS rfl hl.1 rfl (Nat.le_of_ble_eq_true rfl) dX8_sample_5 ⟨Nat.zero_le _, Nat.zero_le _⟩ (fun H locs hP hS => ?_)
  refine lv_if_eq (tgt := 25) hx hb dX8_sample_8 (by decide) (fun c_8 => ?_) (fun c_8 => ?_)
  · refine lv_iconst (v := 1) hx hb dX8_sample_25 (by decide) ?_
    refine kv_i (As := [.int 1]) (rest := []) (wr := []) ⟨hx, hb, hml, hown, hts⟩ (kX8_refused l D H.size cI cC cJ cZ cQ m0 m1 m2 m3 m4 m5 m6 sm ln sp tm th lf kp 1) (cwV 1 hts gX8_sample_X8_refused rfl rfl rfl (by decide +kernel) ⟨Nat.le_of_ble_eq_true rfl, Nat.le_of_ble_eq_true rfl⟩) hP hD hK hS hA hN [0] [] rfl rfl (by decide) (by decide) (by decide) 0 8 rfl rfl rfl rfl hl.1 rfl (Nat.le_of_ble_eq_true rfl) dX8_sample_26 ⟨Nat.zero_le _, Nat.zero_le _⟩ (fun H locs hP hD hS => ?_)
    have hP : va_P D vwCl [(m0, .inr (8, [.ref m1, .ref m2, .int (nI sm), .ref m3, .int (nI ln), .int 1, .ref m4, .int lf, .int kp, .ref m5, .int (nI sp), .ref m6, .int (nI tm)]))] H := hP
    have hD : va_D A [(m0, .inr (8, [.ref m1, .ref m2, .int (nI sm), .ref m3, .int (nI ln), .int 1, .ref m4, .int lf, .int kp, .ref m5, .int (nI sp), .ref m6, .int (nI tm)]))] := hD
    refine k_topi (y := 1) rfl ?_
    refine lv_if_eq (tgt := 34) hx hb dX8_sample_29 (by decide) (fun h => absurd h (by decide)) (fun _ => ?_)
    refine lv_iconst (v := 0) hx hb dX8_sample_32 (by decide) ?_
    have hP9 := hP.sub (ws' := [(m0, .inr (8, [.ref m1, .ref m2, .int (nI sm), .ref m3, .int (nI ln), .int 1, .ref m4, .int lf, .int kp, .ref m5, .int (nI sp), .ref m6, .int (nI tm)]))]) [0] rfl
    have hD9 := hD.sub (ws' := [(m0, .inr (8, [.ref m1, .ref m2, .int (nI sm), .ref m3, .int (nI ln), .int 1, .ref m4, .int lf, .int kp, .ref m5, .int (nI sp), .ref m6, .int (nI tm)]))]) [0] (by decide) rfl
    exact kr_i (v := 0) hx hb hr hlocks hP9 hD9 hS rfl dX8_sample_33
  · refine lv_iload_n hx hb dX8_sample_11 rfl (lv_at hl 2 rfl) ?_
    refine lv_iconst (v := 1) hx hb dX8_sample_12 (by decide) ?_
    refine lv_bipush (v := 99) hx hb dX8_sample_13 (by decide) ?_
    refine ks_i0 (As := [.int p2, .int 1, .int 99]) (rest := [.ref m0]) ⟨hx, hb, hml, hown, hts⟩ (kX8_in l p2 1 99) (va_cwS 3 hts gX8_sample_X8_in rfl rfl rfl (by decide +kernel) ⟨Nat.le_of_ble_eq_true rfl, Nat.le_of_ble_eq_true rfl⟩) hP hS rfl hl.1 rfl (Nat.le_of_ble_eq_true rfl) dX8_sample_15 ⟨Nat.zero_le _, Nat.zero_le _⟩ (fun H locs hP hS => ?_)
    refine lv_if_eq (tgt := 25) hx hb dX8_sample_18 (by decide) (fun c_18 => ?_) (fun c_18 => ?_)
    · refine lv_iconst (v := 1) hx hb dX8_sample_25 (by decide) ?_
      refine kv_i (As := [.int 1]) (rest := []) (wr := []) ⟨hx, hb, hml, hown, hts⟩ (kX8_refused l D H.size cI cC cJ cZ cQ m0 m1 m2 m3 m4 m5 m6 sm ln sp tm th lf kp 1) (cwV 1 hts gX8_sample_X8_refused rfl rfl rfl (by decide +kernel) ⟨Nat.le_of_ble_eq_true rfl, Nat.le_of_ble_eq_true rfl⟩) hP hD hK hS hA hN [0] [] rfl rfl (by decide) (by decide) (by decide) 0 8 rfl rfl rfl rfl hl.1 rfl (Nat.le_of_ble_eq_true rfl) dX8_sample_26 ⟨Nat.zero_le _, Nat.zero_le _⟩ (fun H locs hP hD hS => ?_)
      have hP : va_P D vwCl [(m0, .inr (8, [.ref m1, .ref m2, .int (nI sm), .ref m3, .int (nI ln), .int 1, .ref m4, .int lf, .int kp, .ref m5, .int (nI sp), .ref m6, .int (nI tm)]))] H := hP
      have hD : va_D A [(m0, .inr (8, [.ref m1, .ref m2, .int (nI sm), .ref m3, .int (nI ln), .int 1, .ref m4, .int lf, .int kp, .ref m5, .int (nI sp), .ref m6, .int (nI tm)]))] := hD
      refine k_topi (y := 1) rfl ?_
      refine lv_if_eq (tgt := 34) hx hb dX8_sample_29 (by decide) (fun h => absurd h (by decide)) (fun _ => ?_)
      refine lv_iconst (v := 0) hx hb dX8_sample_32 (by decide) ?_
      have hP9 := hP.sub (ws' := [(m0, .inr (8, [.ref m1, .ref m2, .int (nI sm), .ref m3, .int (nI ln), .int 1, .ref m4, .int lf, .int kp, .ref m5, .int (nI sp), .ref m6, .int (nI tm)]))]) [0] rfl
      have hD9 := hD.sub (ws' := [(m0, .inr (8, [.ref m1, .ref m2, .int (nI sm), .ref m3, .int (nI ln), .int 1, .ref m4, .int lf, .int kp, .ref m5, .int (nI sp), .ref m6, .int (nI tm)]))]) [0] (by decide) rfl
      exact kr_i (v := 0) hx hb hr hlocks hP9 hD9 hS rfl dX8_sample_33
    · exact absurd hbad (fun q9 => q9.elim (fun q => c_8 q) (fun q => c_18 q))

abbrev rmkX8_hold_bad : Room := { frames := 1, cells := 0, slots := 0, locals := 22 }
set_option maxHeartbeats 4000000 in
set_option maxRecDepth 100000 in
theorem kX8_hold_bad (l : Launch) (D : va_G) (sz : Nat) (cI : ClassId) (cC : ClassId) (cJ : ClassId) (cZ : ClassId) (cQ : ClassId) (m0 : Nat) (m1 : Nat) (m2 : Nat) (m3 : Nat) (m4 : Nat) (m5 : Nat) (m6 : Nat) (sm : Nat) (ln : Nat) (sp : Nat) (tm : Nat) (th : Int32) (lf : Int32) (kp : Int32) (p1 : Int32) (hbad : inM p1 1 99 = 0) : Met l yX8_hold wsX8_hold rmkX8_hold_bad (va_Pc [.ref m0, .int p1] (kPre D sz [(m0, .inr (8, [.ref m1, .ref m2, .int (nI sm), .ref m3, .int (nI ln), .int th, .ref m4, .int lf, .int kp, .ref m5, .int (nI sp), .ref m6, .int (nI tm)]))] (kT cI cC cJ cZ cQ))) (kQi D 0 [(m0, .inr (8, [.ref m1, .ref m2, .int (nI sm), .ref m3, .int (nI ln), .int 1, .ref m4, .int lf, .int kp, .ref m5, .int (nI sp), .ref m6, .int (nI tm)]))] (va_A [(m0, .inr (8, [.ref m1, .ref m2, .int (nI sm), .ref m3, .int (nI ln), .int th, .ref m4, .int lf, .int kp, .ref m5, .int (nI sp), .ref m6, .int (nI tm)]))] sz)) 0 0 (va_A [(m0, .inr (8, [.ref m1, .ref m2, .int (nI sm), .ref m3, .int (nI ln), .int th, .ref m4, .int lf, .int kp, .ref m5, .int (nI sp), .ref m6, .int (nI tm)]))] sz) := by
  refine k_met (Qf := kQi D 0 [(m0, .inr (8, [.ref m1, .ref m2, .int (nI sm), .ref m3, .int (nI ln), .int 1, .ref m4, .int lf, .int kp, .ref m5, .int (nI sp), .ref m6, .int (nI tm)]))]) (cc := cX8_hold) (maxL := 3) (ret := (some .int)) (own := RX8) (by decide) rfl (Nat.le_of_ble_eq_true rfl) rfl ?_
  intro p e s m args below meth c ls A H locs hx hb hr hts hown hlocks hml hin hsz hP hK hD hA hS hN hl
  have hl : lv_has ls 3 [(0, .ref m0), (1, .int p1)] := hl
  refine lv_aload_n hx hb dX8_hold_0 rfl (lv_at hl 0 rfl) ?_
  refine lv_iload_n hx hb dX8_hold_1 rfl (lv_at hl 1 rfl) ?_
  refine lv_iconst (v := 1) hx hb dX8_hold_2 (by decide) ?_
  refine lv_bipush (v := 99) hx hb dX8_hold_3 (by decide) ?_
  refine ks_i0 (As := [.int p1, .int 1, .int 99]) (rest := [.ref m0]) ⟨hx, hb, hml, hown, hts⟩ (kX8_in l p1 1 99) (va_cwS 3 hts gX8_hold_X8_in rfl rfl rfl (by decide +kernel) ⟨Nat.le_of_ble_eq_true rfl, Nat.le_of_ble_eq_true rfl⟩) hP hS rfl hl.1 rfl (Nat.le_of_ble_eq_true rfl) dX8_hold_5 ⟨Nat.zero_le _, Nat.zero_le _⟩ (fun H locs hP hS => ?_)
  refine lv_if_eq (tgt := 15) hx hb dX8_hold_8 (by decide) (fun c_8 => ?_) (fun c_8 => ?_)
  · refine lv_iconst (v := 1) hx hb dX8_hold_15 (by decide) ?_
    refine kv_i (As := [.int 1]) (rest := []) (wr := []) ⟨hx, hb, hml, hown, hts⟩ (kX8_refused l D H.size cI cC cJ cZ cQ m0 m1 m2 m3 m4 m5 m6 sm ln sp tm th lf kp 1) (cwV 1 hts gX8_hold_X8_refused rfl rfl rfl (by decide +kernel) ⟨Nat.le_of_ble_eq_true rfl, Nat.le_of_ble_eq_true rfl⟩) hP hD hK hS hA hN [0] [] rfl rfl (by decide) (by decide) (by decide) 0 8 rfl rfl rfl rfl hl.1 rfl (Nat.le_of_ble_eq_true rfl) dX8_hold_16 ⟨Nat.zero_le _, Nat.zero_le _⟩ (fun H locs hP hD hS => ?_)
    have hP : va_P D vwCl [(m0, .inr (8, [.ref m1, .ref m2, .int (nI sm), .ref m3, .int (nI ln), .int 1, .ref m4, .int lf, .int kp, .ref m5, .int (nI sp), .ref m6, .int (nI tm)]))] H := hP
    have hD : va_D A [(m0, .inr (8, [.ref m1, .ref m2, .int (nI sm), .ref m3, .int (nI ln), .int 1, .ref m4, .int lf, .int kp, .ref m5, .int (nI sp), .ref m6, .int (nI tm)]))] := hD
    refine k_topi (y := 1) rfl ?_
    refine lv_if_eq (tgt := 24) hx hb dX8_hold_19 (by decide) (fun h => absurd h (by decide)) (fun _ => ?_)
    refine lv_iconst (v := 0) hx hb dX8_hold_22 (by decide) ?_
    have hP9 := hP.sub (ws' := [(m0, .inr (8, [.ref m1, .ref m2, .int (nI sm), .ref m3, .int (nI ln), .int 1, .ref m4, .int lf, .int kp, .ref m5, .int (nI sp), .ref m6, .int (nI tm)]))]) [0] rfl
    have hD9 := hD.sub (ws' := [(m0, .inr (8, [.ref m1, .ref m2, .int (nI sm), .ref m3, .int (nI ln), .int 1, .ref m4, .int lf, .int kp, .ref m5, .int (nI sp), .ref m6, .int (nI tm)]))]) [0] (by decide) rfl
    exact kr_i (v := 0) hx hb hr hlocks hP9 hD9 hS rfl dX8_hold_23
  · exact absurd hbad c_8

abbrev rmkX8_setCapacitor_bad : Room := { frames := 1, cells := 0, slots := 0, locals := 22 }
set_option maxHeartbeats 4000000 in
set_option maxRecDepth 100000 in
theorem kX8_setCapacitor_bad (l : Launch) (D : va_G) (sz : Nat) (cI : ClassId) (cC : ClassId) (cJ : ClassId) (cZ : ClassId) (cQ : ClassId) (m0 : Nat) (m1 : Nat) (m2 : Nat) (m3 : Nat) (m4 : Nat) (m5 : Nat) (m6 : Nat) (sm : Nat) (ln : Nat) (sp : Nat) (tm : Nat) (th : Int32) (lf : Int32) (kp : Int32) (p1 : Int32) (p2 : Int32) (hbad : inM p1 1 16 = 0 ∨ inM p2 0 64 = 0) : Met l yX8_setCapacitor wsX8_setCapacitor rmkX8_setCapacitor_bad (va_Pc [.ref m0, .int p1, .int p2] (kPre D sz [(m0, .inr (8, [.ref m1, .ref m2, .int (nI sm), .ref m3, .int (nI ln), .int th, .ref m4, .int lf, .int kp, .ref m5, .int (nI sp), .ref m6, .int (nI tm)]))] (kT cI cC cJ cZ cQ))) (kQi D 0 [(m0, .inr (8, [.ref m1, .ref m2, .int (nI sm), .ref m3, .int (nI ln), .int 1, .ref m4, .int lf, .int kp, .ref m5, .int (nI sp), .ref m6, .int (nI tm)]))] (va_A [(m0, .inr (8, [.ref m1, .ref m2, .int (nI sm), .ref m3, .int (nI ln), .int th, .ref m4, .int lf, .int kp, .ref m5, .int (nI sp), .ref m6, .int (nI tm)]))] sz)) 0 0 (va_A [(m0, .inr (8, [.ref m1, .ref m2, .int (nI sm), .ref m3, .int (nI ln), .int th, .ref m4, .int lf, .int kp, .ref m5, .int (nI sp), .ref m6, .int (nI tm)]))] sz) := by
  refine k_met (Qf := kQi D 0 [(m0, .inr (8, [.ref m1, .ref m2, .int (nI sm), .ref m3, .int (nI ln), .int 1, .ref m4, .int lf, .int kp, .ref m5, .int (nI sp), .ref m6, .int (nI tm)]))]) (cc := cX8_setCapacitor) (maxL := 4) (ret := (some .int)) (own := RX8) (by decide) rfl (Nat.le_of_ble_eq_true rfl) rfl ?_
  intro p e s m args below meth c ls A H locs hx hb hr hts hown hlocks hml hin hsz hP hK hD hA hS hN hl
  have hl : lv_has ls 4 [(0, .ref m0), (1, .int p1), (2, .int p2)] := hl
  refine lv_aload_n hx hb dX8_setCapacitor_0 rfl (lv_at hl 0 rfl) ?_
  refine lv_iload_n hx hb dX8_setCapacitor_1 rfl (lv_at hl 1 rfl) ?_
  refine lv_iconst (v := 1) hx hb dX8_setCapacitor_2 (by decide) ?_
  refine lv_bipush (v := 16) hx hb dX8_setCapacitor_3 (by decide) ?_
  refine ks_i0 (As := [.int p1, .int 1, .int 16]) (rest := [.ref m0]) ⟨hx, hb, hml, hown, hts⟩ (kX8_in l p1 1 16) (va_cwS 3 hts gX8_setCapacitor_X8_in rfl rfl rfl (by decide +kernel) ⟨Nat.le_of_ble_eq_true rfl, Nat.le_of_ble_eq_true rfl⟩) hP hS rfl hl.1 rfl (Nat.le_of_ble_eq_true rfl) dX8_setCapacitor_5 ⟨Nat.zero_le _, Nat.zero_le _⟩ (fun H locs hP hS => ?_)
  refine lv_if_eq (tgt := 25) hx hb dX8_setCapacitor_8 (by decide) (fun c_8 => ?_) (fun c_8 => ?_)
  · refine lv_iconst (v := 1) hx hb dX8_setCapacitor_25 (by decide) ?_
    refine kv_i (As := [.int 1]) (rest := []) (wr := []) ⟨hx, hb, hml, hown, hts⟩ (kX8_refused l D H.size cI cC cJ cZ cQ m0 m1 m2 m3 m4 m5 m6 sm ln sp tm th lf kp 1) (cwV 1 hts gX8_setCapacitor_X8_refused rfl rfl rfl (by decide +kernel) ⟨Nat.le_of_ble_eq_true rfl, Nat.le_of_ble_eq_true rfl⟩) hP hD hK hS hA hN [0] [] rfl rfl (by decide) (by decide) (by decide) 0 8 rfl rfl rfl rfl hl.1 rfl (Nat.le_of_ble_eq_true rfl) dX8_setCapacitor_26 ⟨Nat.zero_le _, Nat.zero_le _⟩ (fun H locs hP hD hS => ?_)
    have hP : va_P D vwCl [(m0, .inr (8, [.ref m1, .ref m2, .int (nI sm), .ref m3, .int (nI ln), .int 1, .ref m4, .int lf, .int kp, .ref m5, .int (nI sp), .ref m6, .int (nI tm)]))] H := hP
    have hD : va_D A [(m0, .inr (8, [.ref m1, .ref m2, .int (nI sm), .ref m3, .int (nI ln), .int 1, .ref m4, .int lf, .int kp, .ref m5, .int (nI sp), .ref m6, .int (nI tm)]))] := hD
    refine k_topi (y := 1) rfl ?_
    refine lv_if_eq (tgt := 34) hx hb dX8_setCapacitor_29 (by decide) (fun h => absurd h (by decide)) (fun _ => ?_)
    refine lv_iconst (v := 0) hx hb dX8_setCapacitor_32 (by decide) ?_
    have hP9 := hP.sub (ws' := [(m0, .inr (8, [.ref m1, .ref m2, .int (nI sm), .ref m3, .int (nI ln), .int 1, .ref m4, .int lf, .int kp, .ref m5, .int (nI sp), .ref m6, .int (nI tm)]))]) [0] rfl
    have hD9 := hD.sub (ws' := [(m0, .inr (8, [.ref m1, .ref m2, .int (nI sm), .ref m3, .int (nI ln), .int 1, .ref m4, .int lf, .int kp, .ref m5, .int (nI sp), .ref m6, .int (nI tm)]))]) [0] (by decide) rfl
    exact kr_i (v := 0) hx hb hr hlocks hP9 hD9 hS rfl dX8_setCapacitor_33
  · refine lv_iload_n hx hb dX8_setCapacitor_11 rfl (lv_at hl 2 rfl) ?_
    refine lv_iconst (v := 0) hx hb dX8_setCapacitor_12 (by decide) ?_
    refine lv_bipush (v := 64) hx hb dX8_setCapacitor_13 (by decide) ?_
    refine ks_i0 (As := [.int p2, .int 0, .int 64]) (rest := [.ref m0]) ⟨hx, hb, hml, hown, hts⟩ (kX8_in l p2 0 64) (va_cwS 3 hts gX8_setCapacitor_X8_in rfl rfl rfl (by decide +kernel) ⟨Nat.le_of_ble_eq_true rfl, Nat.le_of_ble_eq_true rfl⟩) hP hS rfl hl.1 rfl (Nat.le_of_ble_eq_true rfl) dX8_setCapacitor_15 ⟨Nat.zero_le _, Nat.zero_le _⟩ (fun H locs hP hS => ?_)
    refine lv_if_eq (tgt := 25) hx hb dX8_setCapacitor_18 (by decide) (fun c_18 => ?_) (fun c_18 => ?_)
    · refine lv_iconst (v := 1) hx hb dX8_setCapacitor_25 (by decide) ?_
      refine kv_i (As := [.int 1]) (rest := []) (wr := []) ⟨hx, hb, hml, hown, hts⟩ (kX8_refused l D H.size cI cC cJ cZ cQ m0 m1 m2 m3 m4 m5 m6 sm ln sp tm th lf kp 1) (cwV 1 hts gX8_setCapacitor_X8_refused rfl rfl rfl (by decide +kernel) ⟨Nat.le_of_ble_eq_true rfl, Nat.le_of_ble_eq_true rfl⟩) hP hD hK hS hA hN [0] [] rfl rfl (by decide) (by decide) (by decide) 0 8 rfl rfl rfl rfl hl.1 rfl (Nat.le_of_ble_eq_true rfl) dX8_setCapacitor_26 ⟨Nat.zero_le _, Nat.zero_le _⟩ (fun H locs hP hD hS => ?_)
      have hP : va_P D vwCl [(m0, .inr (8, [.ref m1, .ref m2, .int (nI sm), .ref m3, .int (nI ln), .int 1, .ref m4, .int lf, .int kp, .ref m5, .int (nI sp), .ref m6, .int (nI tm)]))] H := hP
      have hD : va_D A [(m0, .inr (8, [.ref m1, .ref m2, .int (nI sm), .ref m3, .int (nI ln), .int 1, .ref m4, .int lf, .int kp, .ref m5, .int (nI sp), .ref m6, .int (nI tm)]))] := hD
      refine k_topi (y := 1) rfl ?_
      refine lv_if_eq (tgt := 34) hx hb dX8_setCapacitor_29 (by decide) (fun h => absurd h (by decide)) (fun _ => ?_)
      refine lv_iconst (v := 0) hx hb dX8_setCapacitor_32 (by decide) ?_
      have hP9 := hP.sub (ws' := [(m0, .inr (8, [.ref m1, .ref m2, .int (nI sm), .ref m3, .int (nI ln), .int 1, .ref m4, .int lf, .int kp, .ref m5, .int (nI sp), .ref m6, .int (nI tm)]))]) [0] rfl
      have hD9 := hD.sub (ws' := [(m0, .inr (8, [.ref m1, .ref m2, .int (nI sm), .ref m3, .int (nI ln), .int 1, .ref m4, .int lf, .int kp, .ref m5, .int (nI sp), .ref m6, .int (nI tm)]))]) [0] (by decide) rfl
      exact kr_i (v := 0) hx hb hr hlocks hP9 hD9 hS rfl dX8_setCapacitor_33
    · exact absurd hbad (fun q9 => q9.elim (fun q => c_8 q) (fun q => c_18 q))

abbrev rmkX8_setOffset_bad : Room := { frames := 1, cells := 0, slots := 0, locals := 22 }
set_option maxHeartbeats 4000000 in
set_option maxRecDepth 100000 in
theorem kX8_setOffset_bad (l : Launch) (D : va_G) (sz : Nat) (cI : ClassId) (cC : ClassId) (cJ : ClassId) (cZ : ClassId) (cQ : ClassId) (m0 : Nat) (m1 : Nat) (m2 : Nat) (m3 : Nat) (m4 : Nat) (m5 : Nat) (m6 : Nat) (sm : Nat) (ln : Nat) (sp : Nat) (tm : Nat) (th : Int32) (lf : Int32) (kp : Int32) (p1 : Int32) (hbad : inM p1 (-64) 64 = 0) : Met l yX8_setOffset wsX8_setOffset rmkX8_setOffset_bad (va_Pc [.ref m0, .int p1] (kPre D sz [(m0, .inr (8, [.ref m1, .ref m2, .int (nI sm), .ref m3, .int (nI ln), .int th, .ref m4, .int lf, .int kp, .ref m5, .int (nI sp), .ref m6, .int (nI tm)]))] (kT cI cC cJ cZ cQ))) (kQi D 0 [(m0, .inr (8, [.ref m1, .ref m2, .int (nI sm), .ref m3, .int (nI ln), .int 1, .ref m4, .int lf, .int kp, .ref m5, .int (nI sp), .ref m6, .int (nI tm)]))] (va_A [(m0, .inr (8, [.ref m1, .ref m2, .int (nI sm), .ref m3, .int (nI ln), .int th, .ref m4, .int lf, .int kp, .ref m5, .int (nI sp), .ref m6, .int (nI tm)]))] sz)) 0 0 (va_A [(m0, .inr (8, [.ref m1, .ref m2, .int (nI sm), .ref m3, .int (nI ln), .int th, .ref m4, .int lf, .int kp, .ref m5, .int (nI sp), .ref m6, .int (nI tm)]))] sz) := by
  refine k_met (Qf := kQi D 0 [(m0, .inr (8, [.ref m1, .ref m2, .int (nI sm), .ref m3, .int (nI ln), .int 1, .ref m4, .int lf, .int kp, .ref m5, .int (nI sp), .ref m6, .int (nI tm)]))]) (cc := cX8_setOffset) (maxL := 2) (ret := (some .int)) (own := RX8) (by decide) rfl (Nat.le_of_ble_eq_true rfl) rfl ?_
  intro p e s m args below meth c ls A H locs hx hb hr hts hown hlocks hml hin hsz hP hK hD hA hS hN hl
  have hl : lv_has ls 2 [(0, .ref m0), (1, .int p1)] := hl
  refine lv_aload_n hx hb dX8_setOffset_0 rfl (lv_at hl 0 rfl) ?_
  refine lv_iload_n hx hb dX8_setOffset_1 rfl (lv_at hl 1 rfl) ?_
  refine lv_bipush (v := (-64)) hx hb dX8_setOffset_2 (by decide) ?_
  refine lv_bipush (v := 64) hx hb dX8_setOffset_4 (by decide) ?_
  refine ks_i0 (As := [.int p1, .int (-64), .int 64]) (rest := [.ref m0]) ⟨hx, hb, hml, hown, hts⟩ (kX8_in l p1 (-64) 64) (va_cwS 3 hts gX8_setOffset_X8_in rfl rfl rfl (by decide +kernel) ⟨Nat.le_of_ble_eq_true rfl, Nat.le_of_ble_eq_true rfl⟩) hP hS rfl hl.1 rfl (Nat.le_of_ble_eq_true rfl) dX8_setOffset_6 ⟨Nat.zero_le _, Nat.zero_le _⟩ (fun H locs hP hS => ?_)
  refine lv_if_eq (tgt := 16) hx hb dX8_setOffset_9 (by decide) (fun c_9 => ?_) (fun c_9 => ?_)
  · refine lv_iconst (v := 1) hx hb dX8_setOffset_16 (by decide) ?_
    refine kv_i (As := [.int 1]) (rest := []) (wr := []) ⟨hx, hb, hml, hown, hts⟩ (kX8_refused l D H.size cI cC cJ cZ cQ m0 m1 m2 m3 m4 m5 m6 sm ln sp tm th lf kp 1) (cwV 1 hts gX8_setOffset_X8_refused rfl rfl rfl (by decide +kernel) ⟨Nat.le_of_ble_eq_true rfl, Nat.le_of_ble_eq_true rfl⟩) hP hD hK hS hA hN [0] [] rfl rfl (by decide) (by decide) (by decide) 0 8 rfl rfl rfl rfl hl.1 rfl (Nat.le_of_ble_eq_true rfl) dX8_setOffset_17 ⟨Nat.zero_le _, Nat.zero_le _⟩ (fun H locs hP hD hS => ?_)
    have hP : va_P D vwCl [(m0, .inr (8, [.ref m1, .ref m2, .int (nI sm), .ref m3, .int (nI ln), .int 1, .ref m4, .int lf, .int kp, .ref m5, .int (nI sp), .ref m6, .int (nI tm)]))] H := hP
    have hD : va_D A [(m0, .inr (8, [.ref m1, .ref m2, .int (nI sm), .ref m3, .int (nI ln), .int 1, .ref m4, .int lf, .int kp, .ref m5, .int (nI sp), .ref m6, .int (nI tm)]))] := hD
    refine k_topi (y := 1) rfl ?_
    refine lv_if_eq (tgt := 27) hx hb dX8_setOffset_20 (by decide) (fun h => absurd h (by decide)) (fun _ => ?_)
    refine lv_iconst (v := 0) hx hb dX8_setOffset_23 (by decide) ?_
    refine lv_goto (tgt := 33) hx hb dX8_setOffset_24 (by decide) ?_
    have hP9 := hP.sub (ws' := [(m0, .inr (8, [.ref m1, .ref m2, .int (nI sm), .ref m3, .int (nI ln), .int 1, .ref m4, .int lf, .int kp, .ref m5, .int (nI sp), .ref m6, .int (nI tm)]))]) [0] rfl
    have hD9 := hD.sub (ws' := [(m0, .inr (8, [.ref m1, .ref m2, .int (nI sm), .ref m3, .int (nI ln), .int 1, .ref m4, .int lf, .int kp, .ref m5, .int (nI sp), .ref m6, .int (nI tm)]))]) [0] (by decide) rfl
    exact kr_i (v := 0) hx hb hr hlocks hP9 hD9 hS rfl dX8_setOffset_33
  · exact absurd hbad c_9

abbrev rmkX8_setGlitch_bad : Room := { frames := 1, cells := 0, slots := 0, locals := 22 }
set_option maxHeartbeats 4000000 in
set_option maxRecDepth 100000 in
theorem kX8_setGlitch_bad (l : Launch) (D : va_G) (sz : Nat) (cI : ClassId) (cC : ClassId) (cJ : ClassId) (cZ : ClassId) (cQ : ClassId) (m0 : Nat) (m1 : Nat) (m2 : Nat) (m3 : Nat) (m4 : Nat) (m5 : Nat) (m6 : Nat) (sm : Nat) (ln : Nat) (sp : Nat) (tm : Nat) (th : Int32) (lf : Int32) (kp : Int32) (p1 : Int32) (hbad : inM p1 0 11 = 0) : Met l yX8_setGlitch wsX8_setGlitch rmkX8_setGlitch_bad (va_Pc [.ref m0, .int p1] (kPre D sz [(m0, .inr (8, [.ref m1, .ref m2, .int (nI sm), .ref m3, .int (nI ln), .int th, .ref m4, .int lf, .int kp, .ref m5, .int (nI sp), .ref m6, .int (nI tm)]))] (kT cI cC cJ cZ cQ))) (kQi D 0 [(m0, .inr (8, [.ref m1, .ref m2, .int (nI sm), .ref m3, .int (nI ln), .int 1, .ref m4, .int lf, .int kp, .ref m5, .int (nI sp), .ref m6, .int (nI tm)]))] (va_A [(m0, .inr (8, [.ref m1, .ref m2, .int (nI sm), .ref m3, .int (nI ln), .int th, .ref m4, .int lf, .int kp, .ref m5, .int (nI sp), .ref m6, .int (nI tm)]))] sz)) 0 0 (va_A [(m0, .inr (8, [.ref m1, .ref m2, .int (nI sm), .ref m3, .int (nI ln), .int th, .ref m4, .int lf, .int kp, .ref m5, .int (nI sp), .ref m6, .int (nI tm)]))] sz) := by
  refine k_met (Qf := kQi D 0 [(m0, .inr (8, [.ref m1, .ref m2, .int (nI sm), .ref m3, .int (nI ln), .int 1, .ref m4, .int lf, .int kp, .ref m5, .int (nI sp), .ref m6, .int (nI tm)]))]) (cc := cX8_setGlitch) (maxL := 3) (ret := (some .boolean)) (own := RX8) (by decide) rfl (Nat.le_of_ble_eq_true rfl) rfl ?_
  intro p e s m args below meth c ls A H locs hx hb hr hts hown hlocks hml hin hsz hP hK hD hA hS hN hl
  have hl : lv_has ls 3 [(0, .ref m0), (1, .int p1)] := hl
  refine lv_aload_n hx hb dX8_setGlitch_0 rfl (lv_at hl 0 rfl) ?_
  refine lv_iload_n hx hb dX8_setGlitch_1 rfl (lv_at hl 1 rfl) ?_
  refine lv_iconst (v := 0) hx hb dX8_setGlitch_2 (by decide) ?_
  refine lv_bipush (v := 11) hx hb dX8_setGlitch_3 (by decide) ?_
  refine ks_i0 (As := [.int p1, .int 0, .int 11]) (rest := [.ref m0]) ⟨hx, hb, hml, hown, hts⟩ (kX8_in l p1 0 11) (va_cwS 3 hts gX8_setGlitch_X8_in rfl rfl rfl (by decide +kernel) ⟨Nat.le_of_ble_eq_true rfl, Nat.le_of_ble_eq_true rfl⟩) hP hS rfl hl.1 rfl (Nat.le_of_ble_eq_true rfl) dX8_setGlitch_5 ⟨Nat.zero_le _, Nat.zero_le _⟩ (fun H locs hP hS => ?_)
  refine lv_if_eq (tgt := 15) hx hb dX8_setGlitch_8 (by decide) (fun c_8 => ?_) (fun c_8 => ?_)
  · refine lv_iconst (v := 1) hx hb dX8_setGlitch_15 (by decide) ?_
    refine kv_i (As := [.int 1]) (rest := []) (wr := []) ⟨hx, hb, hml, hown, hts⟩ (kX8_refused l D H.size cI cC cJ cZ cQ m0 m1 m2 m3 m4 m5 m6 sm ln sp tm th lf kp 1) (cwV 1 hts gX8_setGlitch_X8_refused rfl rfl rfl (by decide +kernel) ⟨Nat.le_of_ble_eq_true rfl, Nat.le_of_ble_eq_true rfl⟩) hP hD hK hS hA hN [0] [] rfl rfl (by decide) (by decide) (by decide) 0 8 rfl rfl rfl rfl hl.1 rfl (Nat.le_of_ble_eq_true rfl) dX8_setGlitch_16 ⟨Nat.zero_le _, Nat.zero_le _⟩ (fun H locs hP hD hS => ?_)
    have hP : va_P D vwCl [(m0, .inr (8, [.ref m1, .ref m2, .int (nI sm), .ref m3, .int (nI ln), .int 1, .ref m4, .int lf, .int kp, .ref m5, .int (nI sp), .ref m6, .int (nI tm)]))] H := hP
    have hD : va_D A [(m0, .inr (8, [.ref m1, .ref m2, .int (nI sm), .ref m3, .int (nI ln), .int 1, .ref m4, .int lf, .int kp, .ref m5, .int (nI sp), .ref m6, .int (nI tm)]))] := hD
    refine k_topi (y := 1) rfl ?_
    refine lv_if_eq (tgt := 24) hx hb dX8_setGlitch_19 (by decide) (fun h => absurd h (by decide)) (fun _ => ?_)
    refine lv_iconst (v := 0) hx hb dX8_setGlitch_22 (by decide) ?_
    have hP9 := hP.sub (ws' := [(m0, .inr (8, [.ref m1, .ref m2, .int (nI sm), .ref m3, .int (nI ln), .int 1, .ref m4, .int lf, .int kp, .ref m5, .int (nI sp), .ref m6, .int (nI tm)]))]) [0] rfl
    have hD9 := hD.sub (ws' := [(m0, .inr (8, [.ref m1, .ref m2, .int (nI sm), .ref m3, .int (nI ln), .int 1, .ref m4, .int lf, .int kp, .ref m5, .int (nI sp), .ref m6, .int (nI tm)]))]) [0] (by decide) rfl
    exact kr_z (v := 0) hx hb hr hlocks rfl hP9 hD9 hS rfl dX8_setGlitch_23
  · exact absurd hbad c_8

abbrev rmkX8_ideal_bad : Room := { frames := 1, cells := 0, slots := 0, locals := 22 }
set_option maxHeartbeats 4000000 in
set_option maxRecDepth 100000 in
theorem kX8_ideal_bad (l : Launch) (D : va_G) (sz : Nat) (cI : ClassId) (cC : ClassId) (cJ : ClassId) (cZ : ClassId) (cQ : ClassId) (m0 : Nat) (m1 : Nat) (m2 : Nat) (m3 : Nat) (m4 : Nat) (m5 : Nat) (m6 : Nat) (sm : Nat) (ln : Nat) (sp : Nat) (tm : Nat) (th : Int32) (lf : Int32) (kp : Int32) (p1 : Int32) (hbad : inM p1 0 65535 = 0) : Met l yX8_ideal wsX8_ideal rmkX8_ideal_bad (va_Pc [.ref m0, .int p1] (kPre D sz [(m0, .inr (8, [.ref m1, .ref m2, .int (nI sm), .ref m3, .int (nI ln), .int th, .ref m4, .int lf, .int kp, .ref m5, .int (nI sp), .ref m6, .int (nI tm)]))] (kT cI cC cJ cZ cQ))) (kQi D 0 [(m0, .inr (8, [.ref m1, .ref m2, .int (nI sm), .ref m3, .int (nI ln), .int 1, .ref m4, .int lf, .int kp, .ref m5, .int (nI sp), .ref m6, .int (nI tm)]))] (va_A [(m0, .inr (8, [.ref m1, .ref m2, .int (nI sm), .ref m3, .int (nI ln), .int th, .ref m4, .int lf, .int kp, .ref m5, .int (nI sp), .ref m6, .int (nI tm)]))] sz)) 0 0 (va_A [(m0, .inr (8, [.ref m1, .ref m2, .int (nI sm), .ref m3, .int (nI ln), .int th, .ref m4, .int lf, .int kp, .ref m5, .int (nI sp), .ref m6, .int (nI tm)]))] sz) := by
  refine k_met (Qf := kQi D 0 [(m0, .inr (8, [.ref m1, .ref m2, .int (nI sm), .ref m3, .int (nI ln), .int 1, .ref m4, .int lf, .int kp, .ref m5, .int (nI sp), .ref m6, .int (nI tm)]))]) (cc := cX8_ideal) (maxL := 2) (ret := (some .int)) (own := RX8) (by decide) rfl (Nat.le_of_ble_eq_true rfl) rfl ?_
  intro p e s m args below meth c ls A H locs hx hb hr hts hown hlocks hml hin hsz hP hK hD hA hS hN hl
  have hl : lv_has ls 2 [(0, .ref m0), (1, .int p1)] := hl
  refine lv_aload_n hx hb dX8_ideal_0 rfl (lv_at hl 0 rfl) ?_
  refine lv_iload_n hx hb dX8_ideal_1 rfl (lv_at hl 1 rfl) ?_
  refine lv_iconst (v := 0) hx hb dX8_ideal_2 (by decide) ?_
  refine lv_ldc hx hb hown (hts (.constant RX8 48 (65535)) (List.mem_of_getElem? (i := 1) rfl)) dX8_ideal_3 ?_
  refine ks_i0 (As := [.int p1, .int 0, .int 65535]) (rest := [.ref m0]) ⟨hx, hb, hml, hown, hts⟩ (kX8_in l p1 0 65535) (va_cwS 3 hts gX8_ideal_X8_in rfl rfl rfl (by decide +kernel) ⟨Nat.le_of_ble_eq_true rfl, Nat.le_of_ble_eq_true rfl⟩) hP hS rfl hl.1 rfl (Nat.le_of_ble_eq_true rfl) dX8_ideal_5 ⟨Nat.zero_le _, Nat.zero_le _⟩ (fun H locs hP hS => ?_)
  refine lv_if_eq (tgt := 15) hx hb dX8_ideal_8 (by decide) (fun c_8 => ?_) (fun c_8 => ?_)
  · refine lv_iconst (v := 1) hx hb dX8_ideal_15 (by decide) ?_
    refine kv_i (As := [.int 1]) (rest := []) (wr := []) ⟨hx, hb, hml, hown, hts⟩ (kX8_refused l D H.size cI cC cJ cZ cQ m0 m1 m2 m3 m4 m5 m6 sm ln sp tm th lf kp 1) (cwV 1 hts gX8_ideal_X8_refused rfl rfl rfl (by decide +kernel) ⟨Nat.le_of_ble_eq_true rfl, Nat.le_of_ble_eq_true rfl⟩) hP hD hK hS hA hN [0] [] rfl rfl (by decide) (by decide) (by decide) 0 8 rfl rfl rfl rfl hl.1 rfl (Nat.le_of_ble_eq_true rfl) dX8_ideal_16 ⟨Nat.zero_le _, Nat.zero_le _⟩ (fun H locs hP hD hS => ?_)
    have hP : va_P D vwCl [(m0, .inr (8, [.ref m1, .ref m2, .int (nI sm), .ref m3, .int (nI ln), .int 1, .ref m4, .int lf, .int kp, .ref m5, .int (nI sp), .ref m6, .int (nI tm)]))] H := hP
    have hD : va_D A [(m0, .inr (8, [.ref m1, .ref m2, .int (nI sm), .ref m3, .int (nI ln), .int 1, .ref m4, .int lf, .int kp, .ref m5, .int (nI sp), .ref m6, .int (nI tm)]))] := hD
    refine k_topi (y := 1) rfl ?_
    refine lv_if_eq (tgt := 26) hx hb dX8_ideal_19 (by decide) (fun h => absurd h (by decide)) (fun _ => ?_)
    refine lv_iconst (v := 0) hx hb dX8_ideal_22 (by decide) ?_
    refine lv_goto (tgt := 31) hx hb dX8_ideal_23 (by decide) ?_
    have hP9 := hP.sub (ws' := [(m0, .inr (8, [.ref m1, .ref m2, .int (nI sm), .ref m3, .int (nI ln), .int 1, .ref m4, .int lf, .int kp, .ref m5, .int (nI sp), .ref m6, .int (nI tm)]))]) [0] rfl
    have hD9 := hD.sub (ws' := [(m0, .inr (8, [.ref m1, .ref m2, .int (nI sm), .ref m3, .int (nI ln), .int 1, .ref m4, .int lf, .int kp, .ref m5, .int (nI sp), .ref m6, .int (nI tm)]))]) [0] (by decide) rfl
    exact kr_i (v := 0) hx hb hr hlocks hP9 hD9 hS rfl dX8_ideal_31
  · exact absurd hbad c_8

abbrev rmkX8_ticksToSettle_bad : Room := { frames := 1, cells := 0, slots := 0, locals := 22 }
set_option maxHeartbeats 4000000 in
set_option maxRecDepth 100000 in
theorem kX8_ticksToSettle_bad (l : Launch) (D : va_G) (sz : Nat) (cI : ClassId) (cC : ClassId) (cJ : ClassId) (cZ : ClassId) (cQ : ClassId) (m0 : Nat) (m1 : Nat) (m2 : Nat) (m3 : Nat) (m4 : Nat) (m5 : Nat) (m6 : Nat) (sm : Nat) (ln : Nat) (sp : Nat) (tm : Nat) (th : Int32) (lf : Int32) (kp : Int32) (p1 : Int32) (hbad : inM p1 0 65535 = 0) : Met l yX8_ticksToSettle wsX8_ticksToSettle rmkX8_ticksToSettle_bad (va_Pc [.ref m0, .int p1] (kPre D sz [(m0, .inr (8, [.ref m1, .ref m2, .int (nI sm), .ref m3, .int (nI ln), .int th, .ref m4, .int lf, .int kp, .ref m5, .int (nI sp), .ref m6, .int (nI tm)]))] (kT cI cC cJ cZ cQ))) (kQi D 0 [(m0, .inr (8, [.ref m1, .ref m2, .int (nI sm), .ref m3, .int (nI ln), .int 1, .ref m4, .int lf, .int kp, .ref m5, .int (nI sp), .ref m6, .int (nI tm)]))] (va_A [(m0, .inr (8, [.ref m1, .ref m2, .int (nI sm), .ref m3, .int (nI ln), .int th, .ref m4, .int lf, .int kp, .ref m5, .int (nI sp), .ref m6, .int (nI tm)]))] sz)) 0 0 (va_A [(m0, .inr (8, [.ref m1, .ref m2, .int (nI sm), .ref m3, .int (nI ln), .int th, .ref m4, .int lf, .int kp, .ref m5, .int (nI sp), .ref m6, .int (nI tm)]))] sz) := by
  refine k_met (Qf := kQi D 0 [(m0, .inr (8, [.ref m1, .ref m2, .int (nI sm), .ref m3, .int (nI ln), .int 1, .ref m4, .int lf, .int kp, .ref m5, .int (nI sp), .ref m6, .int (nI tm)]))]) (cc := cX8_ticksToSettle) (maxL := 4) (ret := (some .int)) (own := RX8) (by decide) rfl (Nat.le_of_ble_eq_true rfl) rfl ?_
  intro p e s m args below meth c ls A H locs hx hb hr hts hown hlocks hml hin hsz hP hK hD hA hS hN hl
  have hl : lv_has ls 4 [(0, .ref m0), (1, .int p1)] := hl
  refine lv_aload_n hx hb dX8_ticksToSettle_0 rfl (lv_at hl 0 rfl) ?_
  refine lv_iload_n hx hb dX8_ticksToSettle_1 rfl (lv_at hl 1 rfl) ?_
  refine lv_iconst (v := 0) hx hb dX8_ticksToSettle_2 (by decide) ?_
  refine lv_ldc hx hb hown (hts (.constant RX8 48 (65535)) (List.mem_of_getElem? (i := 1) rfl)) dX8_ticksToSettle_3 ?_
  refine ks_i0 (As := [.int p1, .int 0, .int 65535]) (rest := [.ref m0]) ⟨hx, hb, hml, hown, hts⟩ (kX8_in l p1 0 65535) (va_cwS 3 hts gX8_ticksToSettle_X8_in rfl rfl rfl (by decide +kernel) ⟨Nat.le_of_ble_eq_true rfl, Nat.le_of_ble_eq_true rfl⟩) hP hS rfl hl.1 rfl (Nat.le_of_ble_eq_true rfl) dX8_ticksToSettle_5 ⟨Nat.zero_le _, Nat.zero_le _⟩ (fun H locs hP hS => ?_)
  refine lv_if_eq (tgt := 15) hx hb dX8_ticksToSettle_8 (by decide) (fun c_8 => ?_) (fun c_8 => ?_)
  · refine lv_iconst (v := 1) hx hb dX8_ticksToSettle_15 (by decide) ?_
    refine kv_i (As := [.int 1]) (rest := []) (wr := []) ⟨hx, hb, hml, hown, hts⟩ (kX8_refused l D H.size cI cC cJ cZ cQ m0 m1 m2 m3 m4 m5 m6 sm ln sp tm th lf kp 1) (cwV 1 hts gX8_ticksToSettle_X8_refused rfl rfl rfl (by decide +kernel) ⟨Nat.le_of_ble_eq_true rfl, Nat.le_of_ble_eq_true rfl⟩) hP hD hK hS hA hN [0] [] rfl rfl (by decide) (by decide) (by decide) 0 8 rfl rfl rfl rfl hl.1 rfl (Nat.le_of_ble_eq_true rfl) dX8_ticksToSettle_16 ⟨Nat.zero_le _, Nat.zero_le _⟩ (fun H locs hP hD hS => ?_)
    have hP : va_P D vwCl [(m0, .inr (8, [.ref m1, .ref m2, .int (nI sm), .ref m3, .int (nI ln), .int 1, .ref m4, .int lf, .int kp, .ref m5, .int (nI sp), .ref m6, .int (nI tm)]))] H := hP
    have hD : va_D A [(m0, .inr (8, [.ref m1, .ref m2, .int (nI sm), .ref m3, .int (nI ln), .int 1, .ref m4, .int lf, .int kp, .ref m5, .int (nI sp), .ref m6, .int (nI tm)]))] := hD
    refine k_topi (y := 1) rfl ?_
    refine lv_if_eq (tgt := 24) hx hb dX8_ticksToSettle_19 (by decide) (fun h => absurd h (by decide)) (fun _ => ?_)
    refine lv_iconst (v := 0) hx hb dX8_ticksToSettle_22 (by decide) ?_
    have hP9 := hP.sub (ws' := [(m0, .inr (8, [.ref m1, .ref m2, .int (nI sm), .ref m3, .int (nI ln), .int 1, .ref m4, .int lf, .int kp, .ref m5, .int (nI sp), .ref m6, .int (nI tm)]))]) [0] rfl
    have hD9 := hD.sub (ws' := [(m0, .inr (8, [.ref m1, .ref m2, .int (nI sm), .ref m3, .int (nI ln), .int 1, .ref m4, .int lf, .int kp, .ref m5, .int (nI sp), .ref m6, .int (nI tm)]))]) [0] (by decide) rfl
    exact kr_i (v := 0) hx hb hr hlocks hP9 hD9 hS rfl dX8_ticksToSettle_23
  · exact absurd hbad c_8

abbrev rmkX8_weight_bad : Room := { frames := 2, cells := 0, slots := 0, locals := 43 }
set_option maxHeartbeats 4000000 in
set_option maxRecDepth 100000 in
theorem kX8_weight_bad (l : Launch) (D : va_G) (sz : Nat) (cI : ClassId) (cC : ClassId) (cJ : ClassId) (cZ : ClassId) (cQ : ClassId) (m0 : Nat) (m1 : Nat) (m2 : Nat) (m3 : Nat) (m4 : Nat) (m5 : Nat) (m6 : Nat) (sm : Nat) (ln : Nat) (sp : Nat) (tm : Nat) (th : Int32) (lf : Int32) (kp : Int32) (z : StV) (p1 : Int32) (hbad : inM p1 0 (nI z.2.2.2.2.2.1 - 1) = 0) : Met l yX8_weight wsX8_weight rmkX8_weight_bad (va_Pc [.ref m0, .int p1] (kPre D sz [(m0, .inr (8, [.ref m1, .ref m2, .int (nI sm), .ref m3, .int (nI ln), .int th, .ref m4, .int lf, .int kp, .ref m5, .int (nI sp), .ref m6, .int (nI tm)])), (m1, .inl (cI, 43, .inl (zArr z)))] (kT cI cC cJ cZ cQ))) (kQi D 0 [(m0, .inr (8, [.ref m1, .ref m2, .int (nI sm), .ref m3, .int (nI ln), .int 1, .ref m4, .int lf, .int kp, .ref m5, .int (nI sp), .ref m6, .int (nI tm)])), (m1, .inl (cI, 43, .inl (zArr z)))] (va_A [(m0, .inr (8, [.ref m1, .ref m2, .int (nI sm), .ref m3, .int (nI ln), .int th, .ref m4, .int lf, .int kp, .ref m5, .int (nI sp), .ref m6, .int (nI tm)])), (m1, .inl (cI, 43, .inl (zArr z)))] sz)) 0 0 (va_A [(m0, .inr (8, [.ref m1, .ref m2, .int (nI sm), .ref m3, .int (nI ln), .int th, .ref m4, .int lf, .int kp, .ref m5, .int (nI sp), .ref m6, .int (nI tm)])), (m1, .inl (cI, 43, .inl (zArr z)))] sz) := by
  refine k_met (Qf := kQi D 0 [(m0, .inr (8, [.ref m1, .ref m2, .int (nI sm), .ref m3, .int (nI ln), .int 1, .ref m4, .int lf, .int kp, .ref m5, .int (nI sp), .ref m6, .int (nI tm)])), (m1, .inl (cI, 43, .inl (zArr z)))]) (cc := cX8_weight) (maxL := 2) (ret := (some .int)) (own := RX8) (by decide) rfl (Nat.le_of_ble_eq_true rfl) rfl ?_
  intro p e s m args below meth c ls A H locs hx hb hr hts hown hlocks hml hin hsz hP hK hD hA hS hN hl
  have hl : lv_has ls 2 [(0, .ref m0), (1, .int p1)] := hl
  refine lv_aload_n hx hb dX8_weight_0 rfl (lv_at hl 0 rfl) ?_
  refine lv_aload_n hx hb dX8_weight_1 rfl (lv_at hl 0 rfl) ?_
  refine lv_iload_n hx hb dX8_weight_2 rfl (lv_at hl 1 rfl) ?_
  refine kv_i (As := [.int p1]) (rest := [.ref m0]) (wr := []) ⟨hx, hb, hml, hown, hts⟩ (kX8_isWeight l D H.size cI cC cJ cZ cQ m0 m1 m2 m3 m4 m5 m6 sm ln sp tm th lf kp z p1) (cwV 1 hts gX8_weight_X8_isWeight rfl rfl rfl (by decide +kernel) ⟨Nat.le_of_ble_eq_true rfl, Nat.le_of_ble_eq_true rfl⟩) hP hD hK hS hA hN [0, 1] [] rfl rfl (by decide) (by decide) (by decide) 0 8 rfl rfl rfl rfl hl.1 rfl (Nat.le_of_ble_eq_true rfl) dX8_weight_3 ⟨Nat.zero_le _, Nat.zero_le _⟩ (fun H locs hP hD hS => ?_)
  have hP : va_P D vwCl [(m0, .inr (8, [.ref m1, .ref m2, .int (nI sm), .ref m3, .int (nI ln), .int th, .ref m4, .int lf, .int kp, .ref m5, .int (nI sp), .ref m6, .int (nI tm)])), (m1, .inl (cI, 43, .inl (zArr z)))] H := hP
  have hD : va_D A [(m0, .inr (8, [.ref m1, .ref m2, .int (nI sm), .ref m3, .int (nI ln), .int th, .ref m4, .int lf, .int kp, .ref m5, .int (nI sp), .ref m6, .int (nI tm)])), (m1, .inl (cI, 43, .inl (zArr z)))] := hD
  refine lv_if_eq (tgt := 13) hx hb dX8_weight_6 (by decide) (fun c_6 => ?_) (fun c_6 => ?_)
  · refine lv_iconst (v := 1) hx hb dX8_weight_13 (by decide) ?_
    refine kv_i (As := [.int 1]) (rest := []) (wr := [(m1, .inl (cI, 43, .inl (zArr z)))]) ⟨hx, hb, hml, hown, hts⟩ (kX8_refused l D H.size cI cC cJ cZ cQ m0 m1 m2 m3 m4 m5 m6 sm ln sp tm th lf kp 1) (cwV 1 hts gX8_weight_X8_refused rfl rfl rfl (by decide +kernel) ⟨Nat.le_of_ble_eq_true rfl, Nat.le_of_ble_eq_true rfl⟩) hP hD hK hS hA hN [0] [1] rfl rfl (by decide) (by decide) (by decide) 0 8 rfl rfl rfl rfl hl.1 rfl (Nat.le_of_ble_eq_true rfl) dX8_weight_14 ⟨Nat.zero_le _, Nat.zero_le _⟩ (fun H locs hP hD hS => ?_)
    have hP : va_P D vwCl [(m1, .inl (cI, 43, .inl (zArr z))), (m0, .inr (8, [.ref m1, .ref m2, .int (nI sm), .ref m3, .int (nI ln), .int 1, .ref m4, .int lf, .int kp, .ref m5, .int (nI sp), .ref m6, .int (nI tm)]))] H := hP
    have hD : va_D A [(m1, .inl (cI, 43, .inl (zArr z))), (m0, .inr (8, [.ref m1, .ref m2, .int (nI sm), .ref m3, .int (nI ln), .int 1, .ref m4, .int lf, .int kp, .ref m5, .int (nI sp), .ref m6, .int (nI tm)]))] := hD
    refine k_topi (y := 1) rfl ?_
    refine lv_if_eq (tgt := 24) hx hb dX8_weight_17 (by decide) (fun h => absurd h (by decide)) (fun _ => ?_)
    refine lv_iconst (v := 0) hx hb dX8_weight_20 (by decide) ?_
    refine lv_goto (tgt := 33) hx hb dX8_weight_21 (by decide) ?_
    have hP9 := hP.sub (ws' := [(m0, .inr (8, [.ref m1, .ref m2, .int (nI sm), .ref m3, .int (nI ln), .int 1, .ref m4, .int lf, .int kp, .ref m5, .int (nI sp), .ref m6, .int (nI tm)])), (m1, .inl (cI, 43, .inl (zArr z)))]) [1, 0] rfl
    have hD9 := hD.sub (ws' := [(m0, .inr (8, [.ref m1, .ref m2, .int (nI sm), .ref m3, .int (nI ln), .int 1, .ref m4, .int lf, .int kp, .ref m5, .int (nI sp), .ref m6, .int (nI tm)])), (m1, .inl (cI, 43, .inl (zArr z)))]) [1, 0] (by decide) rfl
    exact kr_i (v := 0) hx hb hr hlocks hP9 hD9 hS rfl dX8_weight_33
  · exact absurd hbad c_6

abbrev rmkX8_code_bad : Room := { frames := 2, cells := 0, slots := 0, locals := 43 }
set_option maxHeartbeats 4000000 in
set_option maxRecDepth 100000 in
theorem kX8_code_bad (l : Launch) (D : va_G) (sz : Nat) (cI : ClassId) (cC : ClassId) (cJ : ClassId) (cZ : ClassId) (cQ : ClassId) (m0 : Nat) (m1 : Nat) (m2 : Nat) (m3 : Nat) (m4 : Nat) (m5 : Nat) (m6 : Nat) (sm : Nat) (ln : Nat) (sp : Nat) (tm : Nat) (th : Int32) (lf : Int32) (kp : Int32) (z : StV) (p1 : Int32) (hbad : inM p1 0 (nI z.2.2.2.2.2.2.1 - 1) = 0) : Met l yX8_code wsX8_code rmkX8_code_bad (va_Pc [.ref m0, .int p1] (kPre D sz [(m0, .inr (8, [.ref m1, .ref m2, .int (nI sm), .ref m3, .int (nI ln), .int th, .ref m4, .int lf, .int kp, .ref m5, .int (nI sp), .ref m6, .int (nI tm)])), (m1, .inl (cI, 43, .inl (zArr z)))] (kT cI cC cJ cZ cQ))) (kQi D 0 [(m0, .inr (8, [.ref m1, .ref m2, .int (nI sm), .ref m3, .int (nI ln), .int 1, .ref m4, .int lf, .int kp, .ref m5, .int (nI sp), .ref m6, .int (nI tm)])), (m1, .inl (cI, 43, .inl (zArr z)))] (va_A [(m0, .inr (8, [.ref m1, .ref m2, .int (nI sm), .ref m3, .int (nI ln), .int th, .ref m4, .int lf, .int kp, .ref m5, .int (nI sp), .ref m6, .int (nI tm)])), (m1, .inl (cI, 43, .inl (zArr z)))] sz)) 0 0 (va_A [(m0, .inr (8, [.ref m1, .ref m2, .int (nI sm), .ref m3, .int (nI ln), .int th, .ref m4, .int lf, .int kp, .ref m5, .int (nI sp), .ref m6, .int (nI tm)])), (m1, .inl (cI, 43, .inl (zArr z)))] sz) := by
  refine k_met (Qf := kQi D 0 [(m0, .inr (8, [.ref m1, .ref m2, .int (nI sm), .ref m3, .int (nI ln), .int 1, .ref m4, .int lf, .int kp, .ref m5, .int (nI sp), .ref m6, .int (nI tm)])), (m1, .inl (cI, 43, .inl (zArr z)))]) (cc := cX8_code) (maxL := 2) (ret := (some .int)) (own := RX8) (by decide) rfl (Nat.le_of_ble_eq_true rfl) rfl ?_
  intro p e s m args below meth c ls A H locs hx hb hr hts hown hlocks hml hin hsz hP hK hD hA hS hN hl
  have hl : lv_has ls 2 [(0, .ref m0), (1, .int p1)] := hl
  refine lv_aload_n hx hb dX8_code_0 rfl (lv_at hl 0 rfl) ?_
  refine lv_aload_n hx hb dX8_code_1 rfl (lv_at hl 0 rfl) ?_
  refine lv_iload_n hx hb dX8_code_2 rfl (lv_at hl 1 rfl) ?_
  refine kv_i (As := [.int p1]) (rest := [.ref m0]) (wr := []) ⟨hx, hb, hml, hown, hts⟩ (kX8_isLogged l D H.size cI cC cJ cZ cQ m0 m1 m2 m3 m4 m5 m6 sm ln sp tm th lf kp z p1) (cwV 1 hts gX8_code_X8_isLogged rfl rfl rfl (by decide +kernel) ⟨Nat.le_of_ble_eq_true rfl, Nat.le_of_ble_eq_true rfl⟩) hP hD hK hS hA hN [0, 1] [] rfl rfl (by decide) (by decide) (by decide) 0 8 rfl rfl rfl rfl hl.1 rfl (Nat.le_of_ble_eq_true rfl) dX8_code_3 ⟨Nat.zero_le _, Nat.zero_le _⟩ (fun H locs hP hD hS => ?_)
  have hP : va_P D vwCl [(m0, .inr (8, [.ref m1, .ref m2, .int (nI sm), .ref m3, .int (nI ln), .int th, .ref m4, .int lf, .int kp, .ref m5, .int (nI sp), .ref m6, .int (nI tm)])), (m1, .inl (cI, 43, .inl (zArr z)))] H := hP
  have hD : va_D A [(m0, .inr (8, [.ref m1, .ref m2, .int (nI sm), .ref m3, .int (nI ln), .int th, .ref m4, .int lf, .int kp, .ref m5, .int (nI sp), .ref m6, .int (nI tm)])), (m1, .inl (cI, 43, .inl (zArr z)))] := hD
  refine lv_if_eq (tgt := 13) hx hb dX8_code_6 (by decide) (fun c_6 => ?_) (fun c_6 => ?_)
  · refine lv_iconst (v := 1) hx hb dX8_code_13 (by decide) ?_
    refine kv_i (As := [.int 1]) (rest := []) (wr := [(m1, .inl (cI, 43, .inl (zArr z)))]) ⟨hx, hb, hml, hown, hts⟩ (kX8_refused l D H.size cI cC cJ cZ cQ m0 m1 m2 m3 m4 m5 m6 sm ln sp tm th lf kp 1) (cwV 1 hts gX8_code_X8_refused rfl rfl rfl (by decide +kernel) ⟨Nat.le_of_ble_eq_true rfl, Nat.le_of_ble_eq_true rfl⟩) hP hD hK hS hA hN [0] [1] rfl rfl (by decide) (by decide) (by decide) 0 8 rfl rfl rfl rfl hl.1 rfl (Nat.le_of_ble_eq_true rfl) dX8_code_14 ⟨Nat.zero_le _, Nat.zero_le _⟩ (fun H locs hP hD hS => ?_)
    have hP : va_P D vwCl [(m1, .inl (cI, 43, .inl (zArr z))), (m0, .inr (8, [.ref m1, .ref m2, .int (nI sm), .ref m3, .int (nI ln), .int 1, .ref m4, .int lf, .int kp, .ref m5, .int (nI sp), .ref m6, .int (nI tm)]))] H := hP
    have hD : va_D A [(m1, .inl (cI, 43, .inl (zArr z))), (m0, .inr (8, [.ref m1, .ref m2, .int (nI sm), .ref m3, .int (nI ln), .int 1, .ref m4, .int lf, .int kp, .ref m5, .int (nI sp), .ref m6, .int (nI tm)]))] := hD
    refine k_topi (y := 1) rfl ?_
    refine lv_if_eq (tgt := 24) hx hb dX8_code_17 (by decide) (fun h => absurd h (by decide)) (fun _ => ?_)
    refine lv_iconst (v := 0) hx hb dX8_code_20 (by decide) ?_
    refine lv_goto (tgt := 37) hx hb dX8_code_21 (by decide) ?_
    have hP9 := hP.sub (ws' := [(m0, .inr (8, [.ref m1, .ref m2, .int (nI sm), .ref m3, .int (nI ln), .int 1, .ref m4, .int lf, .int kp, .ref m5, .int (nI sp), .ref m6, .int (nI tm)])), (m1, .inl (cI, 43, .inl (zArr z)))]) [1, 0] rfl
    have hD9 := hD.sub (ws' := [(m0, .inr (8, [.ref m1, .ref m2, .int (nI sm), .ref m3, .int (nI ln), .int 1, .ref m4, .int lf, .int kp, .ref m5, .int (nI sp), .ref m6, .int (nI tm)])), (m1, .inl (cI, 43, .inl (zArr z)))]) [1, 0] (by decide) rfl
    exact kr_i (v := 0) hx hb hr hlocks hP9 hD9 hS rfl dX8_code_37
  · exact absurd hbad c_6

abbrev rmkX8_kept_bad : Room := { frames := 2, cells := 0, slots := 0, locals := 43 }
set_option maxHeartbeats 4000000 in
set_option maxRecDepth 100000 in
theorem kX8_kept_bad (l : Launch) (D : va_G) (sz : Nat) (cI : ClassId) (cC : ClassId) (cJ : ClassId) (cZ : ClassId) (cQ : ClassId) (m0 : Nat) (m1 : Nat) (m2 : Nat) (m3 : Nat) (m4 : Nat) (m5 : Nat) (m6 : Nat) (sm : Nat) (ln : Nat) (sp : Nat) (tm : Nat) (th : Int32) (lf : Int32) (kp : Int32) (z : StV) (p1 : Int32) (hbad : inM p1 0 (nI z.2.2.2.2.2.2.1 - 1) = 0) : Met l yX8_kept wsX8_kept rmkX8_kept_bad (va_Pc [.ref m0, .int p1] (kPre D sz [(m0, .inr (8, [.ref m1, .ref m2, .int (nI sm), .ref m3, .int (nI ln), .int th, .ref m4, .int lf, .int kp, .ref m5, .int (nI sp), .ref m6, .int (nI tm)])), (m1, .inl (cI, 43, .inl (zArr z)))] (kT cI cC cJ cZ cQ))) (kQi D 0 [(m0, .inr (8, [.ref m1, .ref m2, .int (nI sm), .ref m3, .int (nI ln), .int 1, .ref m4, .int lf, .int kp, .ref m5, .int (nI sp), .ref m6, .int (nI tm)])), (m1, .inl (cI, 43, .inl (zArr z)))] (va_A [(m0, .inr (8, [.ref m1, .ref m2, .int (nI sm), .ref m3, .int (nI ln), .int th, .ref m4, .int lf, .int kp, .ref m5, .int (nI sp), .ref m6, .int (nI tm)])), (m1, .inl (cI, 43, .inl (zArr z)))] sz)) 0 0 (va_A [(m0, .inr (8, [.ref m1, .ref m2, .int (nI sm), .ref m3, .int (nI ln), .int th, .ref m4, .int lf, .int kp, .ref m5, .int (nI sp), .ref m6, .int (nI tm)])), (m1, .inl (cI, 43, .inl (zArr z)))] sz) := by
  refine k_met (Qf := kQi D 0 [(m0, .inr (8, [.ref m1, .ref m2, .int (nI sm), .ref m3, .int (nI ln), .int 1, .ref m4, .int lf, .int kp, .ref m5, .int (nI sp), .ref m6, .int (nI tm)])), (m1, .inl (cI, 43, .inl (zArr z)))]) (cc := cX8_kept) (maxL := 2) (ret := (some .int)) (own := RX8) (by decide) rfl (Nat.le_of_ble_eq_true rfl) rfl ?_
  intro p e s m args below meth c ls A H locs hx hb hr hts hown hlocks hml hin hsz hP hK hD hA hS hN hl
  have hl : lv_has ls 2 [(0, .ref m0), (1, .int p1)] := hl
  refine lv_aload_n hx hb dX8_kept_0 rfl (lv_at hl 0 rfl) ?_
  refine lv_aload_n hx hb dX8_kept_1 rfl (lv_at hl 0 rfl) ?_
  refine lv_iload_n hx hb dX8_kept_2 rfl (lv_at hl 1 rfl) ?_
  refine kv_i (As := [.int p1]) (rest := [.ref m0]) (wr := []) ⟨hx, hb, hml, hown, hts⟩ (kX8_isLogged l D H.size cI cC cJ cZ cQ m0 m1 m2 m3 m4 m5 m6 sm ln sp tm th lf kp z p1) (cwV 1 hts gX8_kept_X8_isLogged rfl rfl rfl (by decide +kernel) ⟨Nat.le_of_ble_eq_true rfl, Nat.le_of_ble_eq_true rfl⟩) hP hD hK hS hA hN [0, 1] [] rfl rfl (by decide) (by decide) (by decide) 0 8 rfl rfl rfl rfl hl.1 rfl (Nat.le_of_ble_eq_true rfl) dX8_kept_3 ⟨Nat.zero_le _, Nat.zero_le _⟩ (fun H locs hP hD hS => ?_)
  have hP : va_P D vwCl [(m0, .inr (8, [.ref m1, .ref m2, .int (nI sm), .ref m3, .int (nI ln), .int th, .ref m4, .int lf, .int kp, .ref m5, .int (nI sp), .ref m6, .int (nI tm)])), (m1, .inl (cI, 43, .inl (zArr z)))] H := hP
  have hD : va_D A [(m0, .inr (8, [.ref m1, .ref m2, .int (nI sm), .ref m3, .int (nI ln), .int th, .ref m4, .int lf, .int kp, .ref m5, .int (nI sp), .ref m6, .int (nI tm)])), (m1, .inl (cI, 43, .inl (zArr z)))] := hD
  refine lv_if_eq (tgt := 13) hx hb dX8_kept_6 (by decide) (fun c_6 => ?_) (fun c_6 => ?_)
  · refine lv_iconst (v := 1) hx hb dX8_kept_13 (by decide) ?_
    refine kv_i (As := [.int 1]) (rest := []) (wr := [(m1, .inl (cI, 43, .inl (zArr z)))]) ⟨hx, hb, hml, hown, hts⟩ (kX8_refused l D H.size cI cC cJ cZ cQ m0 m1 m2 m3 m4 m5 m6 sm ln sp tm th lf kp 1) (cwV 1 hts gX8_kept_X8_refused rfl rfl rfl (by decide +kernel) ⟨Nat.le_of_ble_eq_true rfl, Nat.le_of_ble_eq_true rfl⟩) hP hD hK hS hA hN [0] [1] rfl rfl (by decide) (by decide) (by decide) 0 8 rfl rfl rfl rfl hl.1 rfl (Nat.le_of_ble_eq_true rfl) dX8_kept_14 ⟨Nat.zero_le _, Nat.zero_le _⟩ (fun H locs hP hD hS => ?_)
    have hP : va_P D vwCl [(m1, .inl (cI, 43, .inl (zArr z))), (m0, .inr (8, [.ref m1, .ref m2, .int (nI sm), .ref m3, .int (nI ln), .int 1, .ref m4, .int lf, .int kp, .ref m5, .int (nI sp), .ref m6, .int (nI tm)]))] H := hP
    have hD : va_D A [(m1, .inl (cI, 43, .inl (zArr z))), (m0, .inr (8, [.ref m1, .ref m2, .int (nI sm), .ref m3, .int (nI ln), .int 1, .ref m4, .int lf, .int kp, .ref m5, .int (nI sp), .ref m6, .int (nI tm)]))] := hD
    refine k_topi (y := 1) rfl ?_
    refine lv_if_eq (tgt := 24) hx hb dX8_kept_17 (by decide) (fun h => absurd h (by decide)) (fun _ => ?_)
    refine lv_iconst (v := 0) hx hb dX8_kept_20 (by decide) ?_
    refine lv_goto (tgt := 37) hx hb dX8_kept_21 (by decide) ?_
    have hP9 := hP.sub (ws' := [(m0, .inr (8, [.ref m1, .ref m2, .int (nI sm), .ref m3, .int (nI ln), .int 1, .ref m4, .int lf, .int kp, .ref m5, .int (nI sp), .ref m6, .int (nI tm)])), (m1, .inl (cI, 43, .inl (zArr z)))]) [1, 0] rfl
    have hD9 := hD.sub (ws' := [(m0, .inr (8, [.ref m1, .ref m2, .int (nI sm), .ref m3, .int (nI ln), .int 1, .ref m4, .int lf, .int kp, .ref m5, .int (nI sp), .ref m6, .int (nI tm)])), (m1, .inl (cI, 43, .inl (zArr z)))]) [1, 0] (by decide) rfl
    exact kr_i (v := 0) hx hb hr hlocks hP9 hD9 hS rfl dX8_kept_37
  · exact absurd hbad c_6

abbrev rmkX8_error_bad : Room := { frames := 2, cells := 0, slots := 0, locals := 43 }
set_option maxHeartbeats 4000000 in
set_option maxRecDepth 100000 in
theorem kX8_error_bad (l : Launch) (D : va_G) (sz : Nat) (cI : ClassId) (cC : ClassId) (cJ : ClassId) (cZ : ClassId) (cQ : ClassId) (m0 : Nat) (m1 : Nat) (m2 : Nat) (m3 : Nat) (m4 : Nat) (m5 : Nat) (m6 : Nat) (sm : Nat) (ln : Nat) (sp : Nat) (tm : Nat) (th : Int32) (lf : Int32) (kp : Int32) (z : StV) (p1 : Int32) (hbad : inM p1 0 (nI z.2.2.2.2.2.2.1 - 1) = 0) : Met l yX8_error wsX8_error rmkX8_error_bad (va_Pc [.ref m0, .int p1] (kPre D sz [(m0, .inr (8, [.ref m1, .ref m2, .int (nI sm), .ref m3, .int (nI ln), .int th, .ref m4, .int lf, .int kp, .ref m5, .int (nI sp), .ref m6, .int (nI tm)])), (m1, .inl (cI, 43, .inl (zArr z)))] (kT cI cC cJ cZ cQ))) (kQi D 0 [(m0, .inr (8, [.ref m1, .ref m2, .int (nI sm), .ref m3, .int (nI ln), .int 1, .ref m4, .int lf, .int kp, .ref m5, .int (nI sp), .ref m6, .int (nI tm)])), (m1, .inl (cI, 43, .inl (zArr z)))] (va_A [(m0, .inr (8, [.ref m1, .ref m2, .int (nI sm), .ref m3, .int (nI ln), .int th, .ref m4, .int lf, .int kp, .ref m5, .int (nI sp), .ref m6, .int (nI tm)])), (m1, .inl (cI, 43, .inl (zArr z)))] sz)) 0 0 (va_A [(m0, .inr (8, [.ref m1, .ref m2, .int (nI sm), .ref m3, .int (nI ln), .int th, .ref m4, .int lf, .int kp, .ref m5, .int (nI sp), .ref m6, .int (nI tm)])), (m1, .inl (cI, 43, .inl (zArr z)))] sz) := by
  refine k_met (Qf := kQi D 0 [(m0, .inr (8, [.ref m1, .ref m2, .int (nI sm), .ref m3, .int (nI ln), .int 1, .ref m4, .int lf, .int kp, .ref m5, .int (nI sp), .ref m6, .int (nI tm)])), (m1, .inl (cI, 43, .inl (zArr z)))]) (cc := cX8_error) (maxL := 2) (ret := (some .int)) (own := RX8) (by decide) rfl (Nat.le_of_ble_eq_true rfl) rfl ?_
  intro p e s m args below meth c ls A H locs hx hb hr hts hown hlocks hml hin hsz hP hK hD hA hS hN hl
  have hl : lv_has ls 2 [(0, .ref m0), (1, .int p1)] := hl
  refine lv_aload_n hx hb dX8_error_0 rfl (lv_at hl 0 rfl) ?_
  refine lv_aload_n hx hb dX8_error_1 rfl (lv_at hl 0 rfl) ?_
  refine lv_iload_n hx hb dX8_error_2 rfl (lv_at hl 1 rfl) ?_
  refine kv_i (As := [.int p1]) (rest := [.ref m0]) (wr := []) ⟨hx, hb, hml, hown, hts⟩ (kX8_isLogged l D H.size cI cC cJ cZ cQ m0 m1 m2 m3 m4 m5 m6 sm ln sp tm th lf kp z p1) (cwV 1 hts gX8_error_X8_isLogged rfl rfl rfl (by decide +kernel) ⟨Nat.le_of_ble_eq_true rfl, Nat.le_of_ble_eq_true rfl⟩) hP hD hK hS hA hN [0, 1] [] rfl rfl (by decide) (by decide) (by decide) 0 8 rfl rfl rfl rfl hl.1 rfl (Nat.le_of_ble_eq_true rfl) dX8_error_3 ⟨Nat.zero_le _, Nat.zero_le _⟩ (fun H locs hP hD hS => ?_)
  have hP : va_P D vwCl [(m0, .inr (8, [.ref m1, .ref m2, .int (nI sm), .ref m3, .int (nI ln), .int th, .ref m4, .int lf, .int kp, .ref m5, .int (nI sp), .ref m6, .int (nI tm)])), (m1, .inl (cI, 43, .inl (zArr z)))] H := hP
  have hD : va_D A [(m0, .inr (8, [.ref m1, .ref m2, .int (nI sm), .ref m3, .int (nI ln), .int th, .ref m4, .int lf, .int kp, .ref m5, .int (nI sp), .ref m6, .int (nI tm)])), (m1, .inl (cI, 43, .inl (zArr z)))] := hD
  refine lv_if_eq (tgt := 13) hx hb dX8_error_6 (by decide) (fun c_6 => ?_) (fun c_6 => ?_)
  · refine lv_iconst (v := 1) hx hb dX8_error_13 (by decide) ?_
    refine kv_i (As := [.int 1]) (rest := []) (wr := [(m1, .inl (cI, 43, .inl (zArr z)))]) ⟨hx, hb, hml, hown, hts⟩ (kX8_refused l D H.size cI cC cJ cZ cQ m0 m1 m2 m3 m4 m5 m6 sm ln sp tm th lf kp 1) (cwV 1 hts gX8_error_X8_refused rfl rfl rfl (by decide +kernel) ⟨Nat.le_of_ble_eq_true rfl, Nat.le_of_ble_eq_true rfl⟩) hP hD hK hS hA hN [0] [1] rfl rfl (by decide) (by decide) (by decide) 0 8 rfl rfl rfl rfl hl.1 rfl (Nat.le_of_ble_eq_true rfl) dX8_error_14 ⟨Nat.zero_le _, Nat.zero_le _⟩ (fun H locs hP hD hS => ?_)
    have hP : va_P D vwCl [(m1, .inl (cI, 43, .inl (zArr z))), (m0, .inr (8, [.ref m1, .ref m2, .int (nI sm), .ref m3, .int (nI ln), .int 1, .ref m4, .int lf, .int kp, .ref m5, .int (nI sp), .ref m6, .int (nI tm)]))] H := hP
    have hD : va_D A [(m1, .inl (cI, 43, .inl (zArr z))), (m0, .inr (8, [.ref m1, .ref m2, .int (nI sm), .ref m3, .int (nI ln), .int 1, .ref m4, .int lf, .int kp, .ref m5, .int (nI sp), .ref m6, .int (nI tm)]))] := hD
    refine k_topi (y := 1) rfl ?_
    refine lv_if_eq (tgt := 24) hx hb dX8_error_17 (by decide) (fun h => absurd h (by decide)) (fun _ => ?_)
    refine lv_iconst (v := 0) hx hb dX8_error_20 (by decide) ?_
    refine lv_goto (tgt := 29) hx hb dX8_error_21 (by decide) ?_
    have hP9 := hP.sub (ws' := [(m0, .inr (8, [.ref m1, .ref m2, .int (nI sm), .ref m3, .int (nI ln), .int 1, .ref m4, .int lf, .int kp, .ref m5, .int (nI sp), .ref m6, .int (nI tm)])), (m1, .inl (cI, 43, .inl (zArr z)))]) [1, 0] rfl
    have hD9 := hD.sub (ws' := [(m0, .inr (8, [.ref m1, .ref m2, .int (nI sm), .ref m3, .int (nI ln), .int 1, .ref m4, .int lf, .int kp, .ref m5, .int (nI sp), .ref m6, .int (nI tm)])), (m1, .inl (cI, 43, .inl (zArr z)))]) [1, 0] (by decide) rfl
    exact kr_i (v := 0) hx hb hr hlocks hP9 hD9 hS rfl dX8_error_29
  · exact absurd hbad c_6

abbrev rmkX8_mended_bad : Room := { frames := 2, cells := 0, slots := 0, locals := 43 }
set_option maxHeartbeats 4000000 in
set_option maxRecDepth 100000 in
theorem kX8_mended_bad (l : Launch) (D : va_G) (sz : Nat) (cI : ClassId) (cC : ClassId) (cJ : ClassId) (cZ : ClassId) (cQ : ClassId) (m0 : Nat) (m1 : Nat) (m2 : Nat) (m3 : Nat) (m4 : Nat) (m5 : Nat) (m6 : Nat) (sm : Nat) (ln : Nat) (sp : Nat) (tm : Nat) (th : Int32) (lf : Int32) (kp : Int32) (z : StV) (p1 : Int32) (hbad : inM p1 0 (nI z.2.2.2.2.2.1 - 1) = 0) : Met l yX8_mended wsX8_mended rmkX8_mended_bad (va_Pc [.ref m0, .int p1] (kPre D sz [(m0, .inr (8, [.ref m1, .ref m2, .int (nI sm), .ref m3, .int (nI ln), .int th, .ref m4, .int lf, .int kp, .ref m5, .int (nI sp), .ref m6, .int (nI tm)])), (m1, .inl (cI, 43, .inl (zArr z)))] (kT cI cC cJ cZ cQ))) (kQi D 0 [(m0, .inr (8, [.ref m1, .ref m2, .int (nI sm), .ref m3, .int (nI ln), .int 1, .ref m4, .int lf, .int kp, .ref m5, .int (nI sp), .ref m6, .int (nI tm)])), (m1, .inl (cI, 43, .inl (zArr z)))] (va_A [(m0, .inr (8, [.ref m1, .ref m2, .int (nI sm), .ref m3, .int (nI ln), .int th, .ref m4, .int lf, .int kp, .ref m5, .int (nI sp), .ref m6, .int (nI tm)])), (m1, .inl (cI, 43, .inl (zArr z)))] sz)) 0 0 (va_A [(m0, .inr (8, [.ref m1, .ref m2, .int (nI sm), .ref m3, .int (nI ln), .int th, .ref m4, .int lf, .int kp, .ref m5, .int (nI sp), .ref m6, .int (nI tm)])), (m1, .inl (cI, 43, .inl (zArr z)))] sz) := by
  refine k_met (Qf := kQi D 0 [(m0, .inr (8, [.ref m1, .ref m2, .int (nI sm), .ref m3, .int (nI ln), .int 1, .ref m4, .int lf, .int kp, .ref m5, .int (nI sp), .ref m6, .int (nI tm)])), (m1, .inl (cI, 43, .inl (zArr z)))]) (cc := cX8_mended) (maxL := 2) (ret := (some .int)) (own := RX8) (by decide) rfl (Nat.le_of_ble_eq_true rfl) rfl ?_
  intro p e s m args below meth c ls A H locs hx hb hr hts hown hlocks hml hin hsz hP hK hD hA hS hN hl
  have hl : lv_has ls 2 [(0, .ref m0), (1, .int p1)] := hl
  refine lv_aload_n hx hb dX8_mended_0 rfl (lv_at hl 0 rfl) ?_
  refine lv_aload_n hx hb dX8_mended_1 rfl (lv_at hl 0 rfl) ?_
  refine lv_iload_n hx hb dX8_mended_2 rfl (lv_at hl 1 rfl) ?_
  refine kv_i (As := [.int p1]) (rest := [.ref m0]) (wr := []) ⟨hx, hb, hml, hown, hts⟩ (kX8_isWeight l D H.size cI cC cJ cZ cQ m0 m1 m2 m3 m4 m5 m6 sm ln sp tm th lf kp z p1) (cwV 1 hts gX8_mended_X8_isWeight rfl rfl rfl (by decide +kernel) ⟨Nat.le_of_ble_eq_true rfl, Nat.le_of_ble_eq_true rfl⟩) hP hD hK hS hA hN [0, 1] [] rfl rfl (by decide) (by decide) (by decide) 0 8 rfl rfl rfl rfl hl.1 rfl (Nat.le_of_ble_eq_true rfl) dX8_mended_3 ⟨Nat.zero_le _, Nat.zero_le _⟩ (fun H locs hP hD hS => ?_)
  have hP : va_P D vwCl [(m0, .inr (8, [.ref m1, .ref m2, .int (nI sm), .ref m3, .int (nI ln), .int th, .ref m4, .int lf, .int kp, .ref m5, .int (nI sp), .ref m6, .int (nI tm)])), (m1, .inl (cI, 43, .inl (zArr z)))] H := hP
  have hD : va_D A [(m0, .inr (8, [.ref m1, .ref m2, .int (nI sm), .ref m3, .int (nI ln), .int th, .ref m4, .int lf, .int kp, .ref m5, .int (nI sp), .ref m6, .int (nI tm)])), (m1, .inl (cI, 43, .inl (zArr z)))] := hD
  refine lv_if_eq (tgt := 13) hx hb dX8_mended_6 (by decide) (fun c_6 => ?_) (fun c_6 => ?_)
  · refine lv_iconst (v := 1) hx hb dX8_mended_13 (by decide) ?_
    refine kv_i (As := [.int 1]) (rest := []) (wr := [(m1, .inl (cI, 43, .inl (zArr z)))]) ⟨hx, hb, hml, hown, hts⟩ (kX8_refused l D H.size cI cC cJ cZ cQ m0 m1 m2 m3 m4 m5 m6 sm ln sp tm th lf kp 1) (cwV 1 hts gX8_mended_X8_refused rfl rfl rfl (by decide +kernel) ⟨Nat.le_of_ble_eq_true rfl, Nat.le_of_ble_eq_true rfl⟩) hP hD hK hS hA hN [0] [1] rfl rfl (by decide) (by decide) (by decide) 0 8 rfl rfl rfl rfl hl.1 rfl (Nat.le_of_ble_eq_true rfl) dX8_mended_14 ⟨Nat.zero_le _, Nat.zero_le _⟩ (fun H locs hP hD hS => ?_)
    have hP : va_P D vwCl [(m1, .inl (cI, 43, .inl (zArr z))), (m0, .inr (8, [.ref m1, .ref m2, .int (nI sm), .ref m3, .int (nI ln), .int 1, .ref m4, .int lf, .int kp, .ref m5, .int (nI sp), .ref m6, .int (nI tm)]))] H := hP
    have hD : va_D A [(m1, .inl (cI, 43, .inl (zArr z))), (m0, .inr (8, [.ref m1, .ref m2, .int (nI sm), .ref m3, .int (nI ln), .int 1, .ref m4, .int lf, .int kp, .ref m5, .int (nI sp), .ref m6, .int (nI tm)]))] := hD
    refine k_topi (y := 1) rfl ?_
    refine lv_if_eq (tgt := 24) hx hb dX8_mended_17 (by decide) (fun h => absurd h (by decide)) (fun _ => ?_)
    refine lv_iconst (v := 0) hx hb dX8_mended_20 (by decide) ?_
    refine lv_goto (tgt := 29) hx hb dX8_mended_21 (by decide) ?_
    have hP9 := hP.sub (ws' := [(m0, .inr (8, [.ref m1, .ref m2, .int (nI sm), .ref m3, .int (nI ln), .int 1, .ref m4, .int lf, .int kp, .ref m5, .int (nI sp), .ref m6, .int (nI tm)])), (m1, .inl (cI, 43, .inl (zArr z)))]) [1, 0] rfl
    have hD9 := hD.sub (ws' := [(m0, .inr (8, [.ref m1, .ref m2, .int (nI sm), .ref m3, .int (nI ln), .int 1, .ref m4, .int lf, .int kp, .ref m5, .int (nI sp), .ref m6, .int (nI tm)])), (m1, .inl (cI, 43, .inl (zArr z)))]) [1, 0] (by decide) rfl
    exact kr_i (v := 0) hx hb hr hlocks hP9 hD9 hS rfl dX8_mended_29
  · exact absurd hbad c_6

abbrev rmkX8_setWeight_bad1 : Room := { frames := 2, cells := 0, slots := 0, locals := 43 }
set_option maxHeartbeats 4000000 in
set_option maxRecDepth 100000 in
theorem kX8_setWeight_bad1 (l : Launch) (D : va_G) (sz : Nat) (cI : ClassId) (cC : ClassId) (cJ : ClassId) (cZ : ClassId) (cQ : ClassId) (m0 : Nat) (m1 : Nat) (m2 : Nat) (m3 : Nat) (m4 : Nat) (m5 : Nat) (m6 : Nat) (sm : Nat) (ln : Nat) (sp : Nat) (tm : Nat) (th : Int32) (lf : Int32) (kp : Int32) (z : StV) (p1 : Int32) (p2 : Int32) (h1 : inM p1 0 (nI z.2.2.2.2.2.1 - 1) = 0) : Met l yX8_setWeight wsX8_setWeight rmkX8_setWeight_bad1 (va_Pc [.ref m0, .int p1, .int p2] (kPre D sz [(m0, .inr (8, [.ref m1, .ref m2, .int (nI sm), .ref m3, .int (nI ln), .int th, .ref m4, .int lf, .int kp, .ref m5, .int (nI sp), .ref m6, .int (nI tm)])), (m1, .inl (cI, 43, .inl (zArr z)))] (kT cI cC cJ cZ cQ))) (kQi D 0 [(m0, .inr (8, [.ref m1, .ref m2, .int (nI sm), .ref m3, .int (nI ln), .int 1, .ref m4, .int lf, .int kp, .ref m5, .int (nI sp), .ref m6, .int (nI tm)])), (m1, .inl (cI, 43, .inl (zArr z)))] (va_A [(m0, .inr (8, [.ref m1, .ref m2, .int (nI sm), .ref m3, .int (nI ln), .int th, .ref m4, .int lf, .int kp, .ref m5, .int (nI sp), .ref m6, .int (nI tm)])), (m1, .inl (cI, 43, .inl (zArr z)))] sz)) 0 0 (va_A [(m0, .inr (8, [.ref m1, .ref m2, .int (nI sm), .ref m3, .int (nI ln), .int th, .ref m4, .int lf, .int kp, .ref m5, .int (nI sp), .ref m6, .int (nI tm)])), (m1, .inl (cI, 43, .inl (zArr z)))] sz) := by
  refine k_met (Qf := kQi D 0 [(m0, .inr (8, [.ref m1, .ref m2, .int (nI sm), .ref m3, .int (nI ln), .int 1, .ref m4, .int lf, .int kp, .ref m5, .int (nI sp), .ref m6, .int (nI tm)])), (m1, .inl (cI, 43, .inl (zArr z)))]) (cc := cX8_setWeight) (maxL := 3) (ret := (some .int)) (own := RX8) (by decide) rfl (Nat.le_of_ble_eq_true rfl) rfl ?_
  intro p e s m args below meth c ls A H locs hx hb hr hts hown hlocks hml hin hsz hP hK hD hA hS hN hl
  have hl : lv_has ls 3 [(0, .ref m0), (1, .int p1), (2, .int p2)] := hl
  refine lv_aload_n hx hb dX8_setWeight_0 rfl (lv_at hl 0 rfl) ?_
  refine lv_aload_n hx hb dX8_setWeight_1 rfl (lv_at hl 0 rfl) ?_
  refine lv_iload_n hx hb dX8_setWeight_2 rfl (lv_at hl 1 rfl) ?_
  refine kv_i (As := [.int p1]) (rest := [.ref m0]) (wr := []) ⟨hx, hb, hml, hown, hts⟩ (kX8_isWeight l D H.size cI cC cJ cZ cQ m0 m1 m2 m3 m4 m5 m6 sm ln sp tm th lf kp z p1) (cwV 1 hts gX8_setWeight_X8_isWeight rfl rfl rfl (by decide +kernel) ⟨Nat.le_of_ble_eq_true rfl, Nat.le_of_ble_eq_true rfl⟩) hP hD hK hS hA hN [0, 1] [] rfl rfl (by decide) (by decide) (by decide) 0 8 rfl rfl rfl rfl hl.1 rfl (Nat.le_of_ble_eq_true rfl) dX8_setWeight_3 ⟨Nat.zero_le _, Nat.zero_le _⟩ (fun H locs hP hD hS => ?_)
  have hP : va_P D vwCl [(m0, .inr (8, [.ref m1, .ref m2, .int (nI sm), .ref m3, .int (nI ln), .int th, .ref m4, .int lf, .int kp, .ref m5, .int (nI sp), .ref m6, .int (nI tm)])), (m1, .inl (cI, 43, .inl (zArr z)))] H := hP
  have hD : va_D A [(m0, .inr (8, [.ref m1, .ref m2, .int (nI sm), .ref m3, .int (nI ln), .int th, .ref m4, .int lf, .int kp, .ref m5, .int (nI sp), .ref m6, .int (nI tm)])), (m1, .inl (cI, 43, .inl (zArr z)))] := hD
  refine lv_if_ne (tgt := 13) hx hb dX8_setWeight_6 (by decide) (fun c_6 => ?_) (fun c_6 => ?_)
  · exact absurd h1 c_6
  · refine lv_iconst (v := 1) hx hb dX8_setWeight_9 (by decide) ?_
    refine lv_goto (tgt := 29) hx hb dX8_setWeight_10 (by decide) ?_
    refine kv_i (As := [.int 1]) (rest := []) (wr := [(m1, .inl (cI, 43, .inl (zArr z)))]) ⟨hx, hb, hml, hown, hts⟩ (kX8_refused l D H.size cI cC cJ cZ cQ m0 m1 m2 m3 m4 m5 m6 sm ln sp tm th lf kp 1) (cwV 1 hts gX8_setWeight_X8_refused rfl rfl rfl (by decide +kernel) ⟨Nat.le_of_ble_eq_true rfl, Nat.le_of_ble_eq_true rfl⟩) hP hD hK hS hA hN [0] [1] rfl rfl (by decide) (by decide) (by decide) 0 8 rfl rfl rfl rfl hl.1 rfl (Nat.le_of_ble_eq_true rfl) dX8_setWeight_29 ⟨Nat.zero_le _, Nat.zero_le _⟩ (fun H locs hP hD hS => ?_)
    have hP : va_P D vwCl [(m1, .inl (cI, 43, .inl (zArr z))), (m0, .inr (8, [.ref m1, .ref m2, .int (nI sm), .ref m3, .int (nI ln), .int 1, .ref m4, .int lf, .int kp, .ref m5, .int (nI sp), .ref m6, .int (nI tm)]))] H := hP
    have hD : va_D A [(m1, .inl (cI, 43, .inl (zArr z))), (m0, .inr (8, [.ref m1, .ref m2, .int (nI sm), .ref m3, .int (nI ln), .int 1, .ref m4, .int lf, .int kp, .ref m5, .int (nI sp), .ref m6, .int (nI tm)]))] := hD
    refine k_topi (y := 1) rfl ?_
    refine lv_if_eq (tgt := 39) hx hb dX8_setWeight_32 (by decide) (fun h => absurd h (by decide)) (fun _ => ?_)
    refine lv_iconst (v := 0) hx hb dX8_setWeight_35 (by decide) ?_
    refine lv_goto (tgt := 48) hx hb dX8_setWeight_36 (by decide) ?_
    have hP9 := hP.sub (ws' := [(m0, .inr (8, [.ref m1, .ref m2, .int (nI sm), .ref m3, .int (nI ln), .int 1, .ref m4, .int lf, .int kp, .ref m5, .int (nI sp), .ref m6, .int (nI tm)])), (m1, .inl (cI, 43, .inl (zArr z)))]) [1, 0] rfl
    have hD9 := hD.sub (ws' := [(m0, .inr (8, [.ref m1, .ref m2, .int (nI sm), .ref m3, .int (nI ln), .int 1, .ref m4, .int lf, .int kp, .ref m5, .int (nI sp), .ref m6, .int (nI tm)])), (m1, .inl (cI, 43, .inl (zArr z)))]) [1, 0] (by decide) rfl
    exact kr_i (v := 0) hx hb hr hlocks hP9 hD9 hS rfl dX8_setWeight_48

abbrev rmkX8_setWeight_bad2 : Room := { frames := 2, cells := 0, slots := 0, locals := 43 }
set_option maxHeartbeats 4000000 in
set_option maxRecDepth 100000 in
theorem kX8_setWeight_bad2 (l : Launch) (D : va_G) (sz : Nat) (cI : ClassId) (cC : ClassId) (cJ : ClassId) (cZ : ClassId) (cQ : ClassId) (m0 : Nat) (m1 : Nat) (m2 : Nat) (m3 : Nat) (m4 : Nat) (m5 : Nat) (m6 : Nat) (sm : Nat) (ln : Nat) (sp : Nat) (tm : Nat) (th : Int32) (lf : Int32) (kp : Int32) (z : StV) (p1 : Int32) (p2 : Int32) (h1 : ¬ inM p1 0 (nI z.2.2.2.2.2.1 - 1) = 0) (h2 : inM p2 1 2048 = 0) : Met l yX8_setWeight wsX8_setWeight rmkX8_setWeight_bad2 (va_Pc [.ref m0, .int p1, .int p2] (kPre D sz [(m0, .inr (8, [.ref m1, .ref m2, .int (nI sm), .ref m3, .int (nI ln), .int th, .ref m4, .int lf, .int kp, .ref m5, .int (nI sp), .ref m6, .int (nI tm)])), (m1, .inl (cI, 43, .inl (zArr z)))] (kT cI cC cJ cZ cQ))) (kQi D 0 [(m0, .inr (8, [.ref m1, .ref m2, .int (nI sm), .ref m3, .int (nI ln), .int 2, .ref m4, .int lf, .int kp, .ref m5, .int (nI sp), .ref m6, .int (nI tm)])), (m1, .inl (cI, 43, .inl (zArr z)))] (va_A [(m0, .inr (8, [.ref m1, .ref m2, .int (nI sm), .ref m3, .int (nI ln), .int th, .ref m4, .int lf, .int kp, .ref m5, .int (nI sp), .ref m6, .int (nI tm)])), (m1, .inl (cI, 43, .inl (zArr z)))] sz)) 0 0 (va_A [(m0, .inr (8, [.ref m1, .ref m2, .int (nI sm), .ref m3, .int (nI ln), .int th, .ref m4, .int lf, .int kp, .ref m5, .int (nI sp), .ref m6, .int (nI tm)])), (m1, .inl (cI, 43, .inl (zArr z)))] sz) := by
  refine k_met (Qf := kQi D 0 [(m0, .inr (8, [.ref m1, .ref m2, .int (nI sm), .ref m3, .int (nI ln), .int 2, .ref m4, .int lf, .int kp, .ref m5, .int (nI sp), .ref m6, .int (nI tm)])), (m1, .inl (cI, 43, .inl (zArr z)))]) (cc := cX8_setWeight) (maxL := 3) (ret := (some .int)) (own := RX8) (by decide) rfl (Nat.le_of_ble_eq_true rfl) rfl ?_
  intro p e s m args below meth c ls A H locs hx hb hr hts hown hlocks hml hin hsz hP hK hD hA hS hN hl
  have hl : lv_has ls 3 [(0, .ref m0), (1, .int p1), (2, .int p2)] := hl
  refine lv_aload_n hx hb dX8_setWeight_0 rfl (lv_at hl 0 rfl) ?_
  refine lv_aload_n hx hb dX8_setWeight_1 rfl (lv_at hl 0 rfl) ?_
  refine lv_iload_n hx hb dX8_setWeight_2 rfl (lv_at hl 1 rfl) ?_
  refine kv_i (As := [.int p1]) (rest := [.ref m0]) (wr := []) ⟨hx, hb, hml, hown, hts⟩ (kX8_isWeight l D H.size cI cC cJ cZ cQ m0 m1 m2 m3 m4 m5 m6 sm ln sp tm th lf kp z p1) (cwV 1 hts gX8_setWeight_X8_isWeight rfl rfl rfl (by decide +kernel) ⟨Nat.le_of_ble_eq_true rfl, Nat.le_of_ble_eq_true rfl⟩) hP hD hK hS hA hN [0, 1] [] rfl rfl (by decide) (by decide) (by decide) 0 8 rfl rfl rfl rfl hl.1 rfl (Nat.le_of_ble_eq_true rfl) dX8_setWeight_3 ⟨Nat.zero_le _, Nat.zero_le _⟩ (fun H locs hP hD hS => ?_)
  have hP : va_P D vwCl [(m0, .inr (8, [.ref m1, .ref m2, .int (nI sm), .ref m3, .int (nI ln), .int th, .ref m4, .int lf, .int kp, .ref m5, .int (nI sp), .ref m6, .int (nI tm)])), (m1, .inl (cI, 43, .inl (zArr z)))] H := hP
  have hD : va_D A [(m0, .inr (8, [.ref m1, .ref m2, .int (nI sm), .ref m3, .int (nI ln), .int th, .ref m4, .int lf, .int kp, .ref m5, .int (nI sp), .ref m6, .int (nI tm)])), (m1, .inl (cI, 43, .inl (zArr z)))] := hD
  refine lv_if_ne (tgt := 13) hx hb dX8_setWeight_6 (by decide) (fun c_6 => ?_) (fun c_6 => ?_)
  · refine lv_iload_n hx hb dX8_setWeight_13 rfl (lv_at hl 2 rfl) ?_
    refine lv_iconst (v := 1) hx hb dX8_setWeight_14 (by decide) ?_
    refine lv_sipush (v := 2048) hx hb dX8_setWeight_15 (by decide) ?_
    refine ks_i0 (As := [.int p2, .int 1, .int 2048]) (rest := [.ref m0]) ⟨hx, hb, hml, hown, hts⟩ (kX8_in l p2 1 2048) (va_cwS 3 hts gX8_setWeight_X8_in rfl rfl rfl (by decide +kernel) ⟨Nat.le_of_ble_eq_true rfl, Nat.le_of_ble_eq_true rfl⟩) hP hS rfl hl.1 rfl (Nat.le_of_ble_eq_true rfl) dX8_setWeight_18 ⟨Nat.zero_le _, Nat.zero_le _⟩ (fun H locs hP hS => ?_)
    refine lv_if_eq (tgt := 28) hx hb dX8_setWeight_21 (by decide) (fun c_21 => ?_) (fun c_21 => ?_)
    · refine lv_iconst (v := 2) hx hb dX8_setWeight_28 (by decide) ?_
      refine kv_i (As := [.int 2]) (rest := []) (wr := [(m1, .inl (cI, 43, .inl (zArr z)))]) ⟨hx, hb, hml, hown, hts⟩ (kX8_refused l D H.size cI cC cJ cZ cQ m0 m1 m2 m3 m4 m5 m6 sm ln sp tm th lf kp 2) (cwV 1 hts gX8_setWeight_X8_refused rfl rfl rfl (by decide +kernel) ⟨Nat.le_of_ble_eq_true rfl, Nat.le_of_ble_eq_true rfl⟩) hP hD hK hS hA hN [0] [1] rfl rfl (by decide) (by decide) (by decide) 0 8 rfl rfl rfl rfl hl.1 rfl (Nat.le_of_ble_eq_true rfl) dX8_setWeight_29 ⟨Nat.zero_le _, Nat.zero_le _⟩ (fun H locs hP hD hS => ?_)
      have hP : va_P D vwCl [(m1, .inl (cI, 43, .inl (zArr z))), (m0, .inr (8, [.ref m1, .ref m2, .int (nI sm), .ref m3, .int (nI ln), .int 2, .ref m4, .int lf, .int kp, .ref m5, .int (nI sp), .ref m6, .int (nI tm)]))] H := hP
      have hD : va_D A [(m1, .inl (cI, 43, .inl (zArr z))), (m0, .inr (8, [.ref m1, .ref m2, .int (nI sm), .ref m3, .int (nI ln), .int 2, .ref m4, .int lf, .int kp, .ref m5, .int (nI sp), .ref m6, .int (nI tm)]))] := hD
      refine k_topi (y := 1) rfl ?_
      refine lv_if_eq (tgt := 39) hx hb dX8_setWeight_32 (by decide) (fun h => absurd h (by decide)) (fun _ => ?_)
      refine lv_iconst (v := 0) hx hb dX8_setWeight_35 (by decide) ?_
      refine lv_goto (tgt := 48) hx hb dX8_setWeight_36 (by decide) ?_
      have hP9 := hP.sub (ws' := [(m0, .inr (8, [.ref m1, .ref m2, .int (nI sm), .ref m3, .int (nI ln), .int 2, .ref m4, .int lf, .int kp, .ref m5, .int (nI sp), .ref m6, .int (nI tm)])), (m1, .inl (cI, 43, .inl (zArr z)))]) [1, 0] rfl
      have hD9 := hD.sub (ws' := [(m0, .inr (8, [.ref m1, .ref m2, .int (nI sm), .ref m3, .int (nI ln), .int 2, .ref m4, .int lf, .int kp, .ref m5, .int (nI sp), .ref m6, .int (nI tm)])), (m1, .inl (cI, 43, .inl (zArr z)))]) [1, 0] (by decide) rfl
      exact kr_i (v := 0) hx hb hr hlocks hP9 hD9 hS rfl dX8_setWeight_48
    · exact absurd h2 c_21
  · exact absurd c_6 h1

theorem inkX8_insertWeight_bad1_8 : ∀ w ∈ wsX80, w ∈ wsX8_insertWeight := fun _ h => List.mem_cons_of_mem _ (List.mem_append_right _ h)
abbrev rmkX8_insertWeight_bad1 : Room := { frames := 1, cells := 0, slots := 0, locals := 22 }
set_option maxHeartbeats 4000000 in
set_option maxRecDepth 100000 in
theorem kX8_insertWeight_bad1 (l : Launch) (D : va_G) (sz : Nat) (cI : ClassId) (cC : ClassId) (cJ : ClassId) (cZ : ClassId) (cQ : ClassId) (m0 : Nat) (m1 : Nat) (m2 : Nat) (m3 : Nat) (m4 : Nat) (m5 : Nat) (m6 : Nat) (sm : Nat) (ln : Nat) (sp : Nat) (tm : Nat) (th : Int32) (lf : Int32) (kp : Int32) (z : StV) (p1 : Int32) (p2 : Int32) (h1 : inM p1 0 (nI z.2.2.2.2.2.1) = 0) : Met l yX8_insertWeight wsX8_insertWeight rmkX8_insertWeight_bad1 (va_Pc [.ref m0, .int p1, .int p2] (kPre D sz [(m0, .inr (8, [.ref m1, .ref m2, .int (nI sm), .ref m3, .int (nI ln), .int th, .ref m4, .int lf, .int kp, .ref m5, .int (nI sp), .ref m6, .int (nI tm)])), (m1, .inl (cI, 43, .inl (zArr z)))] (kT cI cC cJ cZ cQ))) (kQi D 0 [(m0, .inr (8, [.ref m1, .ref m2, .int (nI sm), .ref m3, .int (nI ln), .int 1, .ref m4, .int lf, .int kp, .ref m5, .int (nI sp), .ref m6, .int (nI tm)])), (m1, .inl (cI, 43, .inl (zArr z)))] (va_A [(m0, .inr (8, [.ref m1, .ref m2, .int (nI sm), .ref m3, .int (nI ln), .int th, .ref m4, .int lf, .int kp, .ref m5, .int (nI sp), .ref m6, .int (nI tm)])), (m1, .inl (cI, 43, .inl (zArr z)))] sz)) 0 0 (va_A [(m0, .inr (8, [.ref m1, .ref m2, .int (nI sm), .ref m3, .int (nI ln), .int th, .ref m4, .int lf, .int kp, .ref m5, .int (nI sp), .ref m6, .int (nI tm)])), (m1, .inl (cI, 43, .inl (zArr z)))] sz) := by
  refine k_met (Qf := kQi D 0 [(m0, .inr (8, [.ref m1, .ref m2, .int (nI sm), .ref m3, .int (nI ln), .int 1, .ref m4, .int lf, .int kp, .ref m5, .int (nI sp), .ref m6, .int (nI tm)])), (m1, .inl (cI, 43, .inl (zArr z)))]) (cc := cX8_insertWeight) (maxL := 4) (ret := (some .int)) (own := RX8) (by decide) rfl (Nat.le_of_ble_eq_true rfl) rfl ?_
  intro p e s m args below meth c ls A H locs hx hb hr hts hown hlocks hml hin hsz hP hK hD hA hS hN hl
  have hl : lv_has ls 4 [(0, .ref m0), (1, .int p1), (2, .int p2)] := hl
  refine lv_aload_n hx hb dX8_insertWeight_0 rfl (lv_at hl 0 rfl) ?_
  refine lv_iload_n hx hb dX8_insertWeight_1 rfl (lv_at hl 1 rfl) ?_
  refine lv_iconst (v := 0) hx hb dX8_insertWeight_2 (by decide) ?_
  refine lv_aload_n hx hb dX8_insertWeight_3 rfl (lv_at hl 0 rfl) ?_
  refine va_get (D := D) (ci := 8) (v := .ref m1) (C := RX8) (T := TX8) (N := 13) hx hb hts inkX8_insertWeight_bad1_8 hown hK hP 0 rfl rfl 0 (by decide) (hts (.fieldLink RX8 7 "WeighingConverterModel" "z" "[I") (List.mem_of_getElem? (i := 1) rfl)) (fun _ h9 => h9) rfl dX8_insertWeight_4 ?_
  refine lv_iconst (v := 5) hx hb dX8_insertWeight_7 (by decide) ?_
  refine k_iald (k := 5) hx hb hK hP 1 0 rfl rfl (by omega) (by decide) dX8_insertWeight_8 ?_
  refine k_topi (y := nI z.2.2.2.2.2.1) rfl ?_
  refine ks_i0 (As := [.int p1, .int 0, .int (nI z.2.2.2.2.2.1)]) (rest := [.ref m0]) ⟨hx, hb, hml, hown, hts⟩ (kX8_in l p1 0 (nI z.2.2.2.2.2.1)) (va_cwS 3 hts gX8_insertWeight_X8_in rfl rfl rfl (by decide +kernel) ⟨Nat.le_of_ble_eq_true rfl, Nat.le_of_ble_eq_true rfl⟩) hP hS rfl hl.1 rfl (Nat.le_of_ble_eq_true rfl) dX8_insertWeight_9 ⟨Nat.zero_le _, Nat.zero_le _⟩ (fun H locs hP hS => ?_)
  refine lv_if_ne (tgt := 19) hx hb dX8_insertWeight_12 (by decide) (fun c_12 => ?_) (fun c_12 => ?_)
  · exact absurd h1 c_12
  · refine lv_iconst (v := 1) hx hb dX8_insertWeight_15 (by decide) ?_
    refine lv_goto (tgt := 50) hx hb dX8_insertWeight_16 (by decide) ?_
    refine kv_i (As := [.int 1]) (rest := []) (wr := [(m1, .inl (cI, 43, .inl (zArr z)))]) ⟨hx, hb, hml, hown, hts⟩ (kX8_refused l D H.size cI cC cJ cZ cQ m0 m1 m2 m3 m4 m5 m6 sm ln sp tm th lf kp 1) (cwV 1 hts gX8_insertWeight_X8_refused rfl rfl rfl (by decide +kernel) ⟨Nat.le_of_ble_eq_true rfl, Nat.le_of_ble_eq_true rfl⟩) hP hD hK hS hA hN [0] [1] rfl rfl (by decide) (by decide) (by decide) 0 8 rfl rfl rfl rfl hl.1 rfl (Nat.le_of_ble_eq_true rfl) dX8_insertWeight_50 ⟨Nat.zero_le _, Nat.zero_le _⟩ (fun H locs hP hD hS => ?_)
    have hP : va_P D vwCl [(m1, .inl (cI, 43, .inl (zArr z))), (m0, .inr (8, [.ref m1, .ref m2, .int (nI sm), .ref m3, .int (nI ln), .int 1, .ref m4, .int lf, .int kp, .ref m5, .int (nI sp), .ref m6, .int (nI tm)]))] H := hP
    have hD : va_D A [(m1, .inl (cI, 43, .inl (zArr z))), (m0, .inr (8, [.ref m1, .ref m2, .int (nI sm), .ref m3, .int (nI ln), .int 1, .ref m4, .int lf, .int kp, .ref m5, .int (nI sp), .ref m6, .int (nI tm)]))] := hD
    refine k_topi (y := 1) rfl ?_
    refine lv_if_eq (tgt := 58) hx hb dX8_insertWeight_53 (by decide) (fun h => absurd h (by decide)) (fun _ => ?_)
    refine lv_iconst (v := 0) hx hb dX8_insertWeight_56 (by decide) ?_
    have hP9 := hP.sub (ws' := [(m0, .inr (8, [.ref m1, .ref m2, .int (nI sm), .ref m3, .int (nI ln), .int 1, .ref m4, .int lf, .int kp, .ref m5, .int (nI sp), .ref m6, .int (nI tm)])), (m1, .inl (cI, 43, .inl (zArr z)))]) [1, 0] rfl
    have hD9 := hD.sub (ws' := [(m0, .inr (8, [.ref m1, .ref m2, .int (nI sm), .ref m3, .int (nI ln), .int 1, .ref m4, .int lf, .int kp, .ref m5, .int (nI sp), .ref m6, .int (nI tm)])), (m1, .inl (cI, 43, .inl (zArr z)))]) [1, 0] (by decide) rfl
    exact kr_i (v := 0) hx hb hr hlocks hP9 hD9 hS rfl dX8_insertWeight_57

theorem inkX8_insertWeight_bad2_8 : ∀ w ∈ wsX80, w ∈ wsX8_insertWeight := fun _ h => List.mem_cons_of_mem _ (List.mem_append_right _ h)
abbrev rmkX8_insertWeight_bad2 : Room := { frames := 1, cells := 0, slots := 0, locals := 22 }
set_option maxHeartbeats 4000000 in
set_option maxRecDepth 100000 in
theorem kX8_insertWeight_bad2 (l : Launch) (D : va_G) (sz : Nat) (cI : ClassId) (cC : ClassId) (cJ : ClassId) (cZ : ClassId) (cQ : ClassId) (m0 : Nat) (m1 : Nat) (m2 : Nat) (m3 : Nat) (m4 : Nat) (m5 : Nat) (m6 : Nat) (sm : Nat) (ln : Nat) (sp : Nat) (tm : Nat) (th : Int32) (lf : Int32) (kp : Int32) (z : StV) (p1 : Int32) (p2 : Int32) (h1 : ¬ inM p1 0 (nI z.2.2.2.2.2.1) = 0) (h2 : inM p2 1 2048 = 0) : Met l yX8_insertWeight wsX8_insertWeight rmkX8_insertWeight_bad2 (va_Pc [.ref m0, .int p1, .int p2] (kPre D sz [(m0, .inr (8, [.ref m1, .ref m2, .int (nI sm), .ref m3, .int (nI ln), .int th, .ref m4, .int lf, .int kp, .ref m5, .int (nI sp), .ref m6, .int (nI tm)])), (m1, .inl (cI, 43, .inl (zArr z)))] (kT cI cC cJ cZ cQ))) (kQi D 0 [(m0, .inr (8, [.ref m1, .ref m2, .int (nI sm), .ref m3, .int (nI ln), .int 2, .ref m4, .int lf, .int kp, .ref m5, .int (nI sp), .ref m6, .int (nI tm)])), (m1, .inl (cI, 43, .inl (zArr z)))] (va_A [(m0, .inr (8, [.ref m1, .ref m2, .int (nI sm), .ref m3, .int (nI ln), .int th, .ref m4, .int lf, .int kp, .ref m5, .int (nI sp), .ref m6, .int (nI tm)])), (m1, .inl (cI, 43, .inl (zArr z)))] sz)) 0 0 (va_A [(m0, .inr (8, [.ref m1, .ref m2, .int (nI sm), .ref m3, .int (nI ln), .int th, .ref m4, .int lf, .int kp, .ref m5, .int (nI sp), .ref m6, .int (nI tm)])), (m1, .inl (cI, 43, .inl (zArr z)))] sz) := by
  refine k_met (Qf := kQi D 0 [(m0, .inr (8, [.ref m1, .ref m2, .int (nI sm), .ref m3, .int (nI ln), .int 2, .ref m4, .int lf, .int kp, .ref m5, .int (nI sp), .ref m6, .int (nI tm)])), (m1, .inl (cI, 43, .inl (zArr z)))]) (cc := cX8_insertWeight) (maxL := 4) (ret := (some .int)) (own := RX8) (by decide) rfl (Nat.le_of_ble_eq_true rfl) rfl ?_
  intro p e s m args below meth c ls A H locs hx hb hr hts hown hlocks hml hin hsz hP hK hD hA hS hN hl
  have hl : lv_has ls 4 [(0, .ref m0), (1, .int p1), (2, .int p2)] := hl
  refine lv_aload_n hx hb dX8_insertWeight_0 rfl (lv_at hl 0 rfl) ?_
  refine lv_iload_n hx hb dX8_insertWeight_1 rfl (lv_at hl 1 rfl) ?_
  refine lv_iconst (v := 0) hx hb dX8_insertWeight_2 (by decide) ?_
  refine lv_aload_n hx hb dX8_insertWeight_3 rfl (lv_at hl 0 rfl) ?_
  refine va_get (D := D) (ci := 8) (v := .ref m1) (C := RX8) (T := TX8) (N := 13) hx hb hts inkX8_insertWeight_bad2_8 hown hK hP 0 rfl rfl 0 (by decide) (hts (.fieldLink RX8 7 "WeighingConverterModel" "z" "[I") (List.mem_of_getElem? (i := 1) rfl)) (fun _ h9 => h9) rfl dX8_insertWeight_4 ?_
  refine lv_iconst (v := 5) hx hb dX8_insertWeight_7 (by decide) ?_
  refine k_iald (k := 5) hx hb hK hP 1 0 rfl rfl (by omega) (by decide) dX8_insertWeight_8 ?_
  refine k_topi (y := nI z.2.2.2.2.2.1) rfl ?_
  refine ks_i0 (As := [.int p1, .int 0, .int (nI z.2.2.2.2.2.1)]) (rest := [.ref m0]) ⟨hx, hb, hml, hown, hts⟩ (kX8_in l p1 0 (nI z.2.2.2.2.2.1)) (va_cwS 3 hts gX8_insertWeight_X8_in rfl rfl rfl (by decide +kernel) ⟨Nat.le_of_ble_eq_true rfl, Nat.le_of_ble_eq_true rfl⟩) hP hS rfl hl.1 rfl (Nat.le_of_ble_eq_true rfl) dX8_insertWeight_9 ⟨Nat.zero_le _, Nat.zero_le _⟩ (fun H locs hP hS => ?_)
  refine lv_if_ne (tgt := 19) hx hb dX8_insertWeight_12 (by decide) (fun c_12 => ?_) (fun c_12 => ?_)
  · refine lv_iload_n hx hb dX8_insertWeight_19 rfl (lv_at hl 2 rfl) ?_
    refine lv_iconst (v := 1) hx hb dX8_insertWeight_20 (by decide) ?_
    refine lv_sipush (v := 2048) hx hb dX8_insertWeight_21 (by decide) ?_
    refine ks_i0 (As := [.int p2, .int 1, .int 2048]) (rest := [.ref m0]) ⟨hx, hb, hml, hown, hts⟩ (kX8_in l p2 1 2048) (va_cwS 3 hts gX8_insertWeight_X8_in rfl rfl rfl (by decide +kernel) ⟨Nat.le_of_ble_eq_true rfl, Nat.le_of_ble_eq_true rfl⟩) hP hS rfl hl.1 rfl (Nat.le_of_ble_eq_true rfl) dX8_insertWeight_24 ⟨Nat.zero_le _, Nat.zero_le _⟩ (fun H locs hP hS => ?_)
    refine lv_if_ne (tgt := 34) hx hb dX8_insertWeight_27 (by decide) (fun c_27 => ?_) (fun c_27 => ?_)
    · exact absurd h2 c_27
    · refine lv_iconst (v := 2) hx hb dX8_insertWeight_30 (by decide) ?_
      refine lv_goto (tgt := 50) hx hb dX8_insertWeight_31 (by decide) ?_
      refine kv_i (As := [.int 2]) (rest := []) (wr := [(m1, .inl (cI, 43, .inl (zArr z)))]) ⟨hx, hb, hml, hown, hts⟩ (kX8_refused l D H.size cI cC cJ cZ cQ m0 m1 m2 m3 m4 m5 m6 sm ln sp tm th lf kp 2) (cwV 1 hts gX8_insertWeight_X8_refused rfl rfl rfl (by decide +kernel) ⟨Nat.le_of_ble_eq_true rfl, Nat.le_of_ble_eq_true rfl⟩) hP hD hK hS hA hN [0] [1] rfl rfl (by decide) (by decide) (by decide) 0 8 rfl rfl rfl rfl hl.1 rfl (Nat.le_of_ble_eq_true rfl) dX8_insertWeight_50 ⟨Nat.zero_le _, Nat.zero_le _⟩ (fun H locs hP hD hS => ?_)
      have hP : va_P D vwCl [(m1, .inl (cI, 43, .inl (zArr z))), (m0, .inr (8, [.ref m1, .ref m2, .int (nI sm), .ref m3, .int (nI ln), .int 2, .ref m4, .int lf, .int kp, .ref m5, .int (nI sp), .ref m6, .int (nI tm)]))] H := hP
      have hD : va_D A [(m1, .inl (cI, 43, .inl (zArr z))), (m0, .inr (8, [.ref m1, .ref m2, .int (nI sm), .ref m3, .int (nI ln), .int 2, .ref m4, .int lf, .int kp, .ref m5, .int (nI sp), .ref m6, .int (nI tm)]))] := hD
      refine k_topi (y := 1) rfl ?_
      refine lv_if_eq (tgt := 58) hx hb dX8_insertWeight_53 (by decide) (fun h => absurd h (by decide)) (fun _ => ?_)
      refine lv_iconst (v := 0) hx hb dX8_insertWeight_56 (by decide) ?_
      have hP9 := hP.sub (ws' := [(m0, .inr (8, [.ref m1, .ref m2, .int (nI sm), .ref m3, .int (nI ln), .int 2, .ref m4, .int lf, .int kp, .ref m5, .int (nI sp), .ref m6, .int (nI tm)])), (m1, .inl (cI, 43, .inl (zArr z)))]) [1, 0] rfl
      have hD9 := hD.sub (ws' := [(m0, .inr (8, [.ref m1, .ref m2, .int (nI sm), .ref m3, .int (nI ln), .int 2, .ref m4, .int lf, .int kp, .ref m5, .int (nI sp), .ref m6, .int (nI tm)])), (m1, .inl (cI, 43, .inl (zArr z)))]) [1, 0] (by decide) rfl
      exact kr_i (v := 0) hx hb hr hlocks hP9 hD9 hS rfl dX8_insertWeight_57
  · exact absurd c_12 h1

theorem inkX8_insertWeight_bad3_8 : ∀ w ∈ wsX80, w ∈ wsX8_insertWeight := fun _ h => List.mem_cons_of_mem _ (List.mem_append_right _ h)
abbrev rmkX8_insertWeight_bad3 : Room := { frames := 1, cells := 0, slots := 0, locals := 22 }
set_option maxHeartbeats 4000000 in
set_option maxRecDepth 100000 in
theorem kX8_insertWeight_bad3 (l : Launch) (D : va_G) (sz : Nat) (cI : ClassId) (cC : ClassId) (cJ : ClassId) (cZ : ClassId) (cQ : ClassId) (m0 : Nat) (m1 : Nat) (m2 : Nat) (m3 : Nat) (m4 : Nat) (m5 : Nat) (m6 : Nat) (sm : Nat) (ln : Nat) (sp : Nat) (tm : Nat) (th : Int32) (lf : Int32) (kp : Int32) (z : StV) (p1 : Int32) (p2 : Int32) (h1 : ¬ inM p1 0 (nI z.2.2.2.2.2.1) = 0) (h2 : ¬ inM p2 1 2048 = 0) (h3 : z.2.2.2.2.2.1 = 12) : Met l yX8_insertWeight wsX8_insertWeight rmkX8_insertWeight_bad3 (va_Pc [.ref m0, .int p1, .int p2] (kPre D sz [(m0, .inr (8, [.ref m1, .ref m2, .int (nI sm), .ref m3, .int (nI ln), .int th, .ref m4, .int lf, .int kp, .ref m5, .int (nI sp), .ref m6, .int (nI tm)])), (m1, .inl (cI, 43, .inl (zArr z)))] (kT cI cC cJ cZ cQ))) (kQi D 0 [(m0, .inr (8, [.ref m1, .ref m2, .int (nI sm), .ref m3, .int (nI ln), .int 3, .ref m4, .int lf, .int kp, .ref m5, .int (nI sp), .ref m6, .int (nI tm)])), (m1, .inl (cI, 43, .inl (zArr z)))] (va_A [(m0, .inr (8, [.ref m1, .ref m2, .int (nI sm), .ref m3, .int (nI ln), .int th, .ref m4, .int lf, .int kp, .ref m5, .int (nI sp), .ref m6, .int (nI tm)])), (m1, .inl (cI, 43, .inl (zArr z)))] sz)) 0 0 (va_A [(m0, .inr (8, [.ref m1, .ref m2, .int (nI sm), .ref m3, .int (nI ln), .int th, .ref m4, .int lf, .int kp, .ref m5, .int (nI sp), .ref m6, .int (nI tm)])), (m1, .inl (cI, 43, .inl (zArr z)))] sz) := by
  refine k_met (Qf := kQi D 0 [(m0, .inr (8, [.ref m1, .ref m2, .int (nI sm), .ref m3, .int (nI ln), .int 3, .ref m4, .int lf, .int kp, .ref m5, .int (nI sp), .ref m6, .int (nI tm)])), (m1, .inl (cI, 43, .inl (zArr z)))]) (cc := cX8_insertWeight) (maxL := 4) (ret := (some .int)) (own := RX8) (by decide) rfl (Nat.le_of_ble_eq_true rfl) rfl ?_
  intro p e s m args below meth c ls A H locs hx hb hr hts hown hlocks hml hin hsz hP hK hD hA hS hN hl
  have hl : lv_has ls 4 [(0, .ref m0), (1, .int p1), (2, .int p2)] := hl
  refine lv_aload_n hx hb dX8_insertWeight_0 rfl (lv_at hl 0 rfl) ?_
  refine lv_iload_n hx hb dX8_insertWeight_1 rfl (lv_at hl 1 rfl) ?_
  refine lv_iconst (v := 0) hx hb dX8_insertWeight_2 (by decide) ?_
  refine lv_aload_n hx hb dX8_insertWeight_3 rfl (lv_at hl 0 rfl) ?_
  refine va_get (D := D) (ci := 8) (v := .ref m1) (C := RX8) (T := TX8) (N := 13) hx hb hts inkX8_insertWeight_bad3_8 hown hK hP 0 rfl rfl 0 (by decide) (hts (.fieldLink RX8 7 "WeighingConverterModel" "z" "[I") (List.mem_of_getElem? (i := 1) rfl)) (fun _ h9 => h9) rfl dX8_insertWeight_4 ?_
  refine lv_iconst (v := 5) hx hb dX8_insertWeight_7 (by decide) ?_
  refine k_iald (k := 5) hx hb hK hP 1 0 rfl rfl (by omega) (by decide) dX8_insertWeight_8 ?_
  refine k_topi (y := nI z.2.2.2.2.2.1) rfl ?_
  refine ks_i0 (As := [.int p1, .int 0, .int (nI z.2.2.2.2.2.1)]) (rest := [.ref m0]) ⟨hx, hb, hml, hown, hts⟩ (kX8_in l p1 0 (nI z.2.2.2.2.2.1)) (va_cwS 3 hts gX8_insertWeight_X8_in rfl rfl rfl (by decide +kernel) ⟨Nat.le_of_ble_eq_true rfl, Nat.le_of_ble_eq_true rfl⟩) hP hS rfl hl.1 rfl (Nat.le_of_ble_eq_true rfl) dX8_insertWeight_9 ⟨Nat.zero_le _, Nat.zero_le _⟩ (fun H locs hP hS => ?_)
  refine lv_if_ne (tgt := 19) hx hb dX8_insertWeight_12 (by decide) (fun c_12 => ?_) (fun c_12 => ?_)
  · refine lv_iload_n hx hb dX8_insertWeight_19 rfl (lv_at hl 2 rfl) ?_
    refine lv_iconst (v := 1) hx hb dX8_insertWeight_20 (by decide) ?_
    refine lv_sipush (v := 2048) hx hb dX8_insertWeight_21 (by decide) ?_
    refine ks_i0 (As := [.int p2, .int 1, .int 2048]) (rest := [.ref m0]) ⟨hx, hb, hml, hown, hts⟩ (kX8_in l p2 1 2048) (va_cwS 3 hts gX8_insertWeight_X8_in rfl rfl rfl (by decide +kernel) ⟨Nat.le_of_ble_eq_true rfl, Nat.le_of_ble_eq_true rfl⟩) hP hS rfl hl.1 rfl (Nat.le_of_ble_eq_true rfl) dX8_insertWeight_24 ⟨Nat.zero_le _, Nat.zero_le _⟩ (fun H locs hP hS => ?_)
    refine lv_if_ne (tgt := 34) hx hb dX8_insertWeight_27 (by decide) (fun c_27 => ?_) (fun c_27 => ?_)
    · refine lv_aload_n hx hb dX8_insertWeight_34 rfl (lv_at hl 0 rfl) ?_
      refine va_get (D := D) (ci := 8) (v := .ref m1) (C := RX8) (T := TX8) (N := 13) hx hb hts inkX8_insertWeight_bad3_8 hown hK hP 0 rfl rfl 0 (by decide) (hts (.fieldLink RX8 7 "WeighingConverterModel" "z" "[I") (List.mem_of_getElem? (i := 1) rfl)) (fun _ h9 => h9) rfl dX8_insertWeight_35 ?_
      refine lv_iconst (v := 5) hx hb dX8_insertWeight_38 (by decide) ?_
      refine k_iald (k := 5) hx hb hK hP 1 0 rfl rfl (by omega) (by decide) dX8_insertWeight_39 ?_
      refine k_topi (y := nI z.2.2.2.2.2.1) rfl ?_
      refine lv_bipush (v := 12) hx hb dX8_insertWeight_40 (by decide) ?_
      refine lv_icmp_ne (tgt := 49) hx hb dX8_insertWeight_42 (by decide) (fun c_42 => ?_) (fun c_42 => ?_)
      · have c_42 : ¬ z.2.2.2.2.2.1 = 12 := fun h => c_42 ((nI_eq (a := z.2.2.2.2.2.1) (b := 12) (by omega) (by omega)).mpr h)
        exact absurd h3 c_42
      · have c_42 : z.2.2.2.2.2.1 = 12 := (nI_eq (a := z.2.2.2.2.2.1) (b := 12) (by omega) (by omega)).mp c_42
        refine lv_iconst (v := 3) hx hb dX8_insertWeight_45 (by decide) ?_
        refine lv_goto (tgt := 50) hx hb dX8_insertWeight_46 (by decide) ?_
        refine kv_i (As := [.int 3]) (rest := []) (wr := [(m1, .inl (cI, 43, .inl (zArr z)))]) ⟨hx, hb, hml, hown, hts⟩ (kX8_refused l D H.size cI cC cJ cZ cQ m0 m1 m2 m3 m4 m5 m6 sm ln sp tm th lf kp 3) (cwV 1 hts gX8_insertWeight_X8_refused rfl rfl rfl (by decide +kernel) ⟨Nat.le_of_ble_eq_true rfl, Nat.le_of_ble_eq_true rfl⟩) hP hD hK hS hA hN [0] [1] rfl rfl (by decide) (by decide) (by decide) 0 8 rfl rfl rfl rfl hl.1 rfl (Nat.le_of_ble_eq_true rfl) dX8_insertWeight_50 ⟨Nat.zero_le _, Nat.zero_le _⟩ (fun H locs hP hD hS => ?_)
        have hP : va_P D vwCl [(m1, .inl (cI, 43, .inl (zArr z))), (m0, .inr (8, [.ref m1, .ref m2, .int (nI sm), .ref m3, .int (nI ln), .int 3, .ref m4, .int lf, .int kp, .ref m5, .int (nI sp), .ref m6, .int (nI tm)]))] H := hP
        have hD : va_D A [(m1, .inl (cI, 43, .inl (zArr z))), (m0, .inr (8, [.ref m1, .ref m2, .int (nI sm), .ref m3, .int (nI ln), .int 3, .ref m4, .int lf, .int kp, .ref m5, .int (nI sp), .ref m6, .int (nI tm)]))] := hD
        refine k_topi (y := 1) rfl ?_
        refine lv_if_eq (tgt := 58) hx hb dX8_insertWeight_53 (by decide) (fun h => absurd h (by decide)) (fun _ => ?_)
        refine lv_iconst (v := 0) hx hb dX8_insertWeight_56 (by decide) ?_
        have hP9 := hP.sub (ws' := [(m0, .inr (8, [.ref m1, .ref m2, .int (nI sm), .ref m3, .int (nI ln), .int 3, .ref m4, .int lf, .int kp, .ref m5, .int (nI sp), .ref m6, .int (nI tm)])), (m1, .inl (cI, 43, .inl (zArr z)))]) [1, 0] rfl
        have hD9 := hD.sub (ws' := [(m0, .inr (8, [.ref m1, .ref m2, .int (nI sm), .ref m3, .int (nI ln), .int 3, .ref m4, .int lf, .int kp, .ref m5, .int (nI sp), .ref m6, .int (nI tm)])), (m1, .inl (cI, 43, .inl (zArr z)))]) [1, 0] (by decide) rfl
        exact kr_i (v := 0) hx hb hr hlocks hP9 hD9 hS rfl dX8_insertWeight_57
    · exact absurd c_27 h2
  · exact absurd c_12 h1

abbrev rmkX8_removeWeight_bad1 : Room := { frames := 2, cells := 0, slots := 0, locals := 43 }
set_option maxHeartbeats 4000000 in
set_option maxRecDepth 100000 in
theorem kX8_removeWeight_bad1 (l : Launch) (D : va_G) (sz : Nat) (cI : ClassId) (cC : ClassId) (cJ : ClassId) (cZ : ClassId) (cQ : ClassId) (m0 : Nat) (m1 : Nat) (m2 : Nat) (m3 : Nat) (m4 : Nat) (m5 : Nat) (m6 : Nat) (sm : Nat) (ln : Nat) (sp : Nat) (tm : Nat) (th : Int32) (lf : Int32) (kp : Int32) (z : StV) (p1 : Int32) (h1 : inM p1 0 (nI z.2.2.2.2.2.1 - 1) = 0) : Met l yX8_removeWeight wsX8_removeWeight rmkX8_removeWeight_bad1 (va_Pc [.ref m0, .int p1] (kPre D sz [(m0, .inr (8, [.ref m1, .ref m2, .int (nI sm), .ref m3, .int (nI ln), .int th, .ref m4, .int lf, .int kp, .ref m5, .int (nI sp), .ref m6, .int (nI tm)])), (m1, .inl (cI, 43, .inl (zArr z)))] (kT cI cC cJ cZ cQ))) (kQi D 0 [(m0, .inr (8, [.ref m1, .ref m2, .int (nI sm), .ref m3, .int (nI ln), .int 1, .ref m4, .int lf, .int kp, .ref m5, .int (nI sp), .ref m6, .int (nI tm)])), (m1, .inl (cI, 43, .inl (zArr z)))] (va_A [(m0, .inr (8, [.ref m1, .ref m2, .int (nI sm), .ref m3, .int (nI ln), .int th, .ref m4, .int lf, .int kp, .ref m5, .int (nI sp), .ref m6, .int (nI tm)])), (m1, .inl (cI, 43, .inl (zArr z)))] sz)) 0 0 (va_A [(m0, .inr (8, [.ref m1, .ref m2, .int (nI sm), .ref m3, .int (nI ln), .int th, .ref m4, .int lf, .int kp, .ref m5, .int (nI sp), .ref m6, .int (nI tm)])), (m1, .inl (cI, 43, .inl (zArr z)))] sz) := by
  refine k_met (Qf := kQi D 0 [(m0, .inr (8, [.ref m1, .ref m2, .int (nI sm), .ref m3, .int (nI ln), .int 1, .ref m4, .int lf, .int kp, .ref m5, .int (nI sp), .ref m6, .int (nI tm)])), (m1, .inl (cI, 43, .inl (zArr z)))]) (cc := cX8_removeWeight) (maxL := 4) (ret := (some .int)) (own := RX8) (by decide) rfl (Nat.le_of_ble_eq_true rfl) rfl ?_
  intro p e s m args below meth c ls A H locs hx hb hr hts hown hlocks hml hin hsz hP hK hD hA hS hN hl
  have hl : lv_has ls 4 [(0, .ref m0), (1, .int p1)] := hl
  refine lv_aload_n hx hb dX8_removeWeight_0 rfl (lv_at hl 0 rfl) ?_
  refine lv_aload_n hx hb dX8_removeWeight_1 rfl (lv_at hl 0 rfl) ?_
  refine lv_iload_n hx hb dX8_removeWeight_2 rfl (lv_at hl 1 rfl) ?_
  refine kv_i (As := [.int p1]) (rest := [.ref m0]) (wr := []) ⟨hx, hb, hml, hown, hts⟩ (kX8_isWeight l D H.size cI cC cJ cZ cQ m0 m1 m2 m3 m4 m5 m6 sm ln sp tm th lf kp z p1) (cwV 1 hts gX8_removeWeight_X8_isWeight rfl rfl rfl (by decide +kernel) ⟨Nat.le_of_ble_eq_true rfl, Nat.le_of_ble_eq_true rfl⟩) hP hD hK hS hA hN [0, 1] [] rfl rfl (by decide) (by decide) (by decide) 0 8 rfl rfl rfl rfl hl.1 rfl (Nat.le_of_ble_eq_true rfl) dX8_removeWeight_3 ⟨Nat.zero_le _, Nat.zero_le _⟩ (fun H locs hP hD hS => ?_)
  have hP : va_P D vwCl [(m0, .inr (8, [.ref m1, .ref m2, .int (nI sm), .ref m3, .int (nI ln), .int th, .ref m4, .int lf, .int kp, .ref m5, .int (nI sp), .ref m6, .int (nI tm)])), (m1, .inl (cI, 43, .inl (zArr z)))] H := hP
  have hD : va_D A [(m0, .inr (8, [.ref m1, .ref m2, .int (nI sm), .ref m3, .int (nI ln), .int th, .ref m4, .int lf, .int kp, .ref m5, .int (nI sp), .ref m6, .int (nI tm)])), (m1, .inl (cI, 43, .inl (zArr z)))] := hD
  refine lv_if_ne (tgt := 13) hx hb dX8_removeWeight_6 (by decide) (fun c_6 => ?_) (fun c_6 => ?_)
  · exact absurd h1 c_6
  · refine lv_iconst (v := 1) hx hb dX8_removeWeight_9 (by decide) ?_
    refine lv_goto (tgt := 28) hx hb dX8_removeWeight_10 (by decide) ?_
    refine kv_i (As := [.int 1]) (rest := []) (wr := [(m1, .inl (cI, 43, .inl (zArr z)))]) ⟨hx, hb, hml, hown, hts⟩ (kX8_refused l D H.size cI cC cJ cZ cQ m0 m1 m2 m3 m4 m5 m6 sm ln sp tm th lf kp 1) (cwV 1 hts gX8_removeWeight_X8_refused rfl rfl rfl (by decide +kernel) ⟨Nat.le_of_ble_eq_true rfl, Nat.le_of_ble_eq_true rfl⟩) hP hD hK hS hA hN [0] [1] rfl rfl (by decide) (by decide) (by decide) 0 8 rfl rfl rfl rfl hl.1 rfl (Nat.le_of_ble_eq_true rfl) dX8_removeWeight_28 ⟨Nat.zero_le _, Nat.zero_le _⟩ (fun H locs hP hD hS => ?_)
    have hP : va_P D vwCl [(m1, .inl (cI, 43, .inl (zArr z))), (m0, .inr (8, [.ref m1, .ref m2, .int (nI sm), .ref m3, .int (nI ln), .int 1, .ref m4, .int lf, .int kp, .ref m5, .int (nI sp), .ref m6, .int (nI tm)]))] H := hP
    have hD : va_D A [(m1, .inl (cI, 43, .inl (zArr z))), (m0, .inr (8, [.ref m1, .ref m2, .int (nI sm), .ref m3, .int (nI ln), .int 1, .ref m4, .int lf, .int kp, .ref m5, .int (nI sp), .ref m6, .int (nI tm)]))] := hD
    refine k_topi (y := 1) rfl ?_
    refine lv_if_eq (tgt := 36) hx hb dX8_removeWeight_31 (by decide) (fun h => absurd h (by decide)) (fun _ => ?_)
    refine lv_iconst (v := 0) hx hb dX8_removeWeight_34 (by decide) ?_
    have hP9 := hP.sub (ws' := [(m0, .inr (8, [.ref m1, .ref m2, .int (nI sm), .ref m3, .int (nI ln), .int 1, .ref m4, .int lf, .int kp, .ref m5, .int (nI sp), .ref m6, .int (nI tm)])), (m1, .inl (cI, 43, .inl (zArr z)))]) [1, 0] rfl
    have hD9 := hD.sub (ws' := [(m0, .inr (8, [.ref m1, .ref m2, .int (nI sm), .ref m3, .int (nI ln), .int 1, .ref m4, .int lf, .int kp, .ref m5, .int (nI sp), .ref m6, .int (nI tm)])), (m1, .inl (cI, 43, .inl (zArr z)))]) [1, 0] (by decide) rfl
    exact kr_i (v := 0) hx hb hr hlocks hP9 hD9 hS rfl dX8_removeWeight_35

theorem inkX8_removeWeight_bad2_8 : ∀ w ∈ wsX80, w ∈ wsX8_removeWeight := fun _ h => List.mem_cons_of_mem _ (List.mem_append_right _ h)
abbrev rmkX8_removeWeight_bad2 : Room := { frames := 2, cells := 0, slots := 0, locals := 43 }
set_option maxHeartbeats 4000000 in
set_option maxRecDepth 100000 in
theorem kX8_removeWeight_bad2 (l : Launch) (D : va_G) (sz : Nat) (cI : ClassId) (cC : ClassId) (cJ : ClassId) (cZ : ClassId) (cQ : ClassId) (m0 : Nat) (m1 : Nat) (m2 : Nat) (m3 : Nat) (m4 : Nat) (m5 : Nat) (m6 : Nat) (sm : Nat) (ln : Nat) (sp : Nat) (tm : Nat) (th : Int32) (lf : Int32) (kp : Int32) (z : StV) (p1 : Int32) (h1 : ¬ inM p1 0 (nI z.2.2.2.2.2.1 - 1) = 0) (h2 : z.2.2.2.2.2.1 = 1) : Met l yX8_removeWeight wsX8_removeWeight rmkX8_removeWeight_bad2 (va_Pc [.ref m0, .int p1] (kPre D sz [(m0, .inr (8, [.ref m1, .ref m2, .int (nI sm), .ref m3, .int (nI ln), .int th, .ref m4, .int lf, .int kp, .ref m5, .int (nI sp), .ref m6, .int (nI tm)])), (m1, .inl (cI, 43, .inl (zArr z)))] (kT cI cC cJ cZ cQ))) (kQi D 0 [(m0, .inr (8, [.ref m1, .ref m2, .int (nI sm), .ref m3, .int (nI ln), .int 2, .ref m4, .int lf, .int kp, .ref m5, .int (nI sp), .ref m6, .int (nI tm)])), (m1, .inl (cI, 43, .inl (zArr z)))] (va_A [(m0, .inr (8, [.ref m1, .ref m2, .int (nI sm), .ref m3, .int (nI ln), .int th, .ref m4, .int lf, .int kp, .ref m5, .int (nI sp), .ref m6, .int (nI tm)])), (m1, .inl (cI, 43, .inl (zArr z)))] sz)) 0 0 (va_A [(m0, .inr (8, [.ref m1, .ref m2, .int (nI sm), .ref m3, .int (nI ln), .int th, .ref m4, .int lf, .int kp, .ref m5, .int (nI sp), .ref m6, .int (nI tm)])), (m1, .inl (cI, 43, .inl (zArr z)))] sz) := by
  refine k_met (Qf := kQi D 0 [(m0, .inr (8, [.ref m1, .ref m2, .int (nI sm), .ref m3, .int (nI ln), .int 2, .ref m4, .int lf, .int kp, .ref m5, .int (nI sp), .ref m6, .int (nI tm)])), (m1, .inl (cI, 43, .inl (zArr z)))]) (cc := cX8_removeWeight) (maxL := 4) (ret := (some .int)) (own := RX8) (by decide) rfl (Nat.le_of_ble_eq_true rfl) rfl ?_
  intro p e s m args below meth c ls A H locs hx hb hr hts hown hlocks hml hin hsz hP hK hD hA hS hN hl
  have hl : lv_has ls 4 [(0, .ref m0), (1, .int p1)] := hl
  refine lv_aload_n hx hb dX8_removeWeight_0 rfl (lv_at hl 0 rfl) ?_
  refine lv_aload_n hx hb dX8_removeWeight_1 rfl (lv_at hl 0 rfl) ?_
  refine lv_iload_n hx hb dX8_removeWeight_2 rfl (lv_at hl 1 rfl) ?_
  refine kv_i (As := [.int p1]) (rest := [.ref m0]) (wr := []) ⟨hx, hb, hml, hown, hts⟩ (kX8_isWeight l D H.size cI cC cJ cZ cQ m0 m1 m2 m3 m4 m5 m6 sm ln sp tm th lf kp z p1) (cwV 1 hts gX8_removeWeight_X8_isWeight rfl rfl rfl (by decide +kernel) ⟨Nat.le_of_ble_eq_true rfl, Nat.le_of_ble_eq_true rfl⟩) hP hD hK hS hA hN [0, 1] [] rfl rfl (by decide) (by decide) (by decide) 0 8 rfl rfl rfl rfl hl.1 rfl (Nat.le_of_ble_eq_true rfl) dX8_removeWeight_3 ⟨Nat.zero_le _, Nat.zero_le _⟩ (fun H locs hP hD hS => ?_)
  have hP : va_P D vwCl [(m0, .inr (8, [.ref m1, .ref m2, .int (nI sm), .ref m3, .int (nI ln), .int th, .ref m4, .int lf, .int kp, .ref m5, .int (nI sp), .ref m6, .int (nI tm)])), (m1, .inl (cI, 43, .inl (zArr z)))] H := hP
  have hD : va_D A [(m0, .inr (8, [.ref m1, .ref m2, .int (nI sm), .ref m3, .int (nI ln), .int th, .ref m4, .int lf, .int kp, .ref m5, .int (nI sp), .ref m6, .int (nI tm)])), (m1, .inl (cI, 43, .inl (zArr z)))] := hD
  refine lv_if_ne (tgt := 13) hx hb dX8_removeWeight_6 (by decide) (fun c_6 => ?_) (fun c_6 => ?_)
  · refine lv_aload_n hx hb dX8_removeWeight_13 rfl (lv_at hl 0 rfl) ?_
    refine va_get (D := D) (ci := 8) (v := .ref m1) (C := RX8) (T := TX8) (N := 13) hx hb hts inkX8_removeWeight_bad2_8 hown hK hP 0 rfl rfl 0 (by decide) (hts (.fieldLink RX8 7 "WeighingConverterModel" "z" "[I") (List.mem_of_getElem? (i := 1) rfl)) (fun _ h9 => h9) rfl dX8_removeWeight_14 ?_
    refine lv_iconst (v := 5) hx hb dX8_removeWeight_17 (by decide) ?_
    refine k_iald (k := 5) hx hb hK hP 1 0 rfl rfl (by omega) (by decide) dX8_removeWeight_18 ?_
    refine k_topi (y := nI z.2.2.2.2.2.1) rfl ?_
    refine lv_iconst (v := 1) hx hb dX8_removeWeight_19 (by decide) ?_
    refine lv_icmp_ne (tgt := 27) hx hb dX8_removeWeight_20 (by decide) (fun c_20 => ?_) (fun c_20 => ?_)
    · have c_20 : ¬ z.2.2.2.2.2.1 = 1 := fun h => c_20 ((nI_eq (a := z.2.2.2.2.2.1) (b := 1) (by omega) (by omega)).mpr h)
      exact absurd h2 c_20
    · have c_20 : z.2.2.2.2.2.1 = 1 := (nI_eq (a := z.2.2.2.2.2.1) (b := 1) (by omega) (by omega)).mp c_20
      refine lv_iconst (v := 2) hx hb dX8_removeWeight_23 (by decide) ?_
      refine lv_goto (tgt := 28) hx hb dX8_removeWeight_24 (by decide) ?_
      refine kv_i (As := [.int 2]) (rest := []) (wr := [(m1, .inl (cI, 43, .inl (zArr z)))]) ⟨hx, hb, hml, hown, hts⟩ (kX8_refused l D H.size cI cC cJ cZ cQ m0 m1 m2 m3 m4 m5 m6 sm ln sp tm th lf kp 2) (cwV 1 hts gX8_removeWeight_X8_refused rfl rfl rfl (by decide +kernel) ⟨Nat.le_of_ble_eq_true rfl, Nat.le_of_ble_eq_true rfl⟩) hP hD hK hS hA hN [0] [1] rfl rfl (by decide) (by decide) (by decide) 0 8 rfl rfl rfl rfl hl.1 rfl (Nat.le_of_ble_eq_true rfl) dX8_removeWeight_28 ⟨Nat.zero_le _, Nat.zero_le _⟩ (fun H locs hP hD hS => ?_)
      have hP : va_P D vwCl [(m1, .inl (cI, 43, .inl (zArr z))), (m0, .inr (8, [.ref m1, .ref m2, .int (nI sm), .ref m3, .int (nI ln), .int 2, .ref m4, .int lf, .int kp, .ref m5, .int (nI sp), .ref m6, .int (nI tm)]))] H := hP
      have hD : va_D A [(m1, .inl (cI, 43, .inl (zArr z))), (m0, .inr (8, [.ref m1, .ref m2, .int (nI sm), .ref m3, .int (nI ln), .int 2, .ref m4, .int lf, .int kp, .ref m5, .int (nI sp), .ref m6, .int (nI tm)]))] := hD
      refine k_topi (y := 1) rfl ?_
      refine lv_if_eq (tgt := 36) hx hb dX8_removeWeight_31 (by decide) (fun h => absurd h (by decide)) (fun _ => ?_)
      refine lv_iconst (v := 0) hx hb dX8_removeWeight_34 (by decide) ?_
      have hP9 := hP.sub (ws' := [(m0, .inr (8, [.ref m1, .ref m2, .int (nI sm), .ref m3, .int (nI ln), .int 2, .ref m4, .int lf, .int kp, .ref m5, .int (nI sp), .ref m6, .int (nI tm)])), (m1, .inl (cI, 43, .inl (zArr z)))]) [1, 0] rfl
      have hD9 := hD.sub (ws' := [(m0, .inr (8, [.ref m1, .ref m2, .int (nI sm), .ref m3, .int (nI ln), .int 2, .ref m4, .int lf, .int kp, .ref m5, .int (nI sp), .ref m6, .int (nI tm)])), (m1, .inl (cI, 43, .inl (zArr z)))]) [1, 0] (by decide) rfl
      exact kr_i (v := 0) hx hb hr hlocks hP9 hD9 hS rfl dX8_removeWeight_35
  · exact absurd c_6 h1

abbrev rmkX8_append_bad1 : Room := { frames := 1, cells := 0, slots := 0, locals := 22 }
set_option maxHeartbeats 4000000 in
set_option maxRecDepth 100000 in
theorem kX8_append_bad1 (l : Launch) (D : va_G) (sz : Nat) (cI : ClassId) (cC : ClassId) (cJ : ClassId) (cZ : ClassId) (cQ : ClassId) (m0 : Nat) (m1 : Nat) (m2 : Nat) (m3 : Nat) (m4 : Nat) (m5 : Nat) (m6 : Nat) (sm : Nat) (ln : Nat) (sp : Nat) (tm : Nat) (th : Int32) (lf : Int32) (kp : Int32) (p1 : Int32) (h1 : inM p1 33 126 = 0) : Met l yX8_append wsX8_append rmkX8_append_bad1 (va_Pc [.ref m0, .int p1] (kPre D sz [(m0, .inr (8, [.ref m1, .ref m2, .int (nI sm), .ref m3, .int (nI ln), .int th, .ref m4, .int lf, .int kp, .ref m5, .int (nI sp), .ref m6, .int (nI tm)]))] (kT cI cC cJ cZ cQ))) (kQi D 0 [(m0, .inr (8, [.ref m1, .ref m2, .int (nI sm), .ref m3, .int (nI ln), .int 1, .ref m4, .int lf, .int kp, .ref m5, .int (nI sp), .ref m6, .int (nI tm)]))] (va_A [(m0, .inr (8, [.ref m1, .ref m2, .int (nI sm), .ref m3, .int (nI ln), .int th, .ref m4, .int lf, .int kp, .ref m5, .int (nI sp), .ref m6, .int (nI tm)]))] sz)) 0 0 (va_A [(m0, .inr (8, [.ref m1, .ref m2, .int (nI sm), .ref m3, .int (nI ln), .int th, .ref m4, .int lf, .int kp, .ref m5, .int (nI sp), .ref m6, .int (nI tm)]))] sz) := by
  refine k_met (Qf := kQi D 0 [(m0, .inr (8, [.ref m1, .ref m2, .int (nI sm), .ref m3, .int (nI ln), .int 1, .ref m4, .int lf, .int kp, .ref m5, .int (nI sp), .ref m6, .int (nI tm)]))]) (cc := cX8_append) (maxL := 2) (ret := (some .int)) (own := RX8) (by decide) rfl (Nat.le_of_ble_eq_true rfl) rfl ?_
  intro p e s m args below meth c ls A H locs hx hb hr hts hown hlocks hml hin hsz hP hK hD hA hS hN hl
  have hl : lv_has ls 2 [(0, .ref m0), (1, .int p1)] := hl
  refine lv_aload_n hx hb dX8_append_0 rfl (lv_at hl 0 rfl) ?_
  refine lv_iload_n hx hb dX8_append_1 rfl (lv_at hl 1 rfl) ?_
  refine lv_bipush (v := 33) hx hb dX8_append_2 (by decide) ?_
  refine lv_bipush (v := 126) hx hb dX8_append_4 (by decide) ?_
  refine ks_i0 (As := [.int p1, .int 33, .int 126]) (rest := [.ref m0]) ⟨hx, hb, hml, hown, hts⟩ (kX8_in l p1 33 126) (va_cwS 3 hts gX8_append_X8_in rfl rfl rfl (by decide +kernel) ⟨Nat.le_of_ble_eq_true rfl, Nat.le_of_ble_eq_true rfl⟩) hP hS rfl hl.1 rfl (Nat.le_of_ble_eq_true rfl) dX8_append_6 ⟨Nat.zero_le _, Nat.zero_le _⟩ (fun H locs hP hS => ?_)
  refine lv_if_ne (tgt := 16) hx hb dX8_append_9 (by decide) (fun c_9 => ?_) (fun c_9 => ?_)
  · exact absurd h1 c_9
  · refine lv_iconst (v := 1) hx hb dX8_append_12 (by decide) ?_
    refine lv_goto (tgt := 30) hx hb dX8_append_13 (by decide) ?_
    refine kv_i (As := [.int 1]) (rest := []) (wr := []) ⟨hx, hb, hml, hown, hts⟩ (kX8_refused l D H.size cI cC cJ cZ cQ m0 m1 m2 m3 m4 m5 m6 sm ln sp tm th lf kp 1) (cwV 1 hts gX8_append_X8_refused rfl rfl rfl (by decide +kernel) ⟨Nat.le_of_ble_eq_true rfl, Nat.le_of_ble_eq_true rfl⟩) hP hD hK hS hA hN [0] [] rfl rfl (by decide) (by decide) (by decide) 0 8 rfl rfl rfl rfl hl.1 rfl (Nat.le_of_ble_eq_true rfl) dX8_append_30 ⟨Nat.zero_le _, Nat.zero_le _⟩ (fun H locs hP hD hS => ?_)
    have hP : va_P D vwCl [(m0, .inr (8, [.ref m1, .ref m2, .int (nI sm), .ref m3, .int (nI ln), .int 1, .ref m4, .int lf, .int kp, .ref m5, .int (nI sp), .ref m6, .int (nI tm)]))] H := hP
    have hD : va_D A [(m0, .inr (8, [.ref m1, .ref m2, .int (nI sm), .ref m3, .int (nI ln), .int 1, .ref m4, .int lf, .int kp, .ref m5, .int (nI sp), .ref m6, .int (nI tm)]))] := hD
    refine k_topi (y := 1) rfl ?_
    refine lv_if_eq (tgt := 38) hx hb dX8_append_33 (by decide) (fun h => absurd h (by decide)) (fun _ => ?_)
    refine lv_iconst (v := 0) hx hb dX8_append_36 (by decide) ?_
    have hP9 := hP.sub (ws' := [(m0, .inr (8, [.ref m1, .ref m2, .int (nI sm), .ref m3, .int (nI ln), .int 1, .ref m4, .int lf, .int kp, .ref m5, .int (nI sp), .ref m6, .int (nI tm)]))]) [0] rfl
    have hD9 := hD.sub (ws' := [(m0, .inr (8, [.ref m1, .ref m2, .int (nI sm), .ref m3, .int (nI ln), .int 1, .ref m4, .int lf, .int kp, .ref m5, .int (nI sp), .ref m6, .int (nI tm)]))]) [0] (by decide) rfl
    exact kr_i (v := 0) hx hb hr hlocks hP9 hD9 hS rfl dX8_append_37

theorem inkX8_append_bad2_8 : ∀ w ∈ wsX80, w ∈ wsX8_append := fun _ h => List.mem_cons_of_mem _ (List.mem_append_right _ h)
abbrev rmkX8_append_bad2 : Room := { frames := 1, cells := 0, slots := 0, locals := 22 }
set_option maxHeartbeats 4000000 in
set_option maxRecDepth 100000 in
theorem kX8_append_bad2 (l : Launch) (D : va_G) (sz : Nat) (cI : ClassId) (cC : ClassId) (cJ : ClassId) (cZ : ClassId) (cQ : ClassId) (m0 : Nat) (m1 : Nat) (m2 : Nat) (m3 : Nat) (m4 : Nat) (m5 : Nat) (m6 : Nat) (sm : Nat) (ln : Nat) (sp : Nat) (tm : Nat) (th : Int32) (lf : Int32) (kp : Int32) (p1 : Int32) (h1 : ¬ inM p1 33 126 = 0) (h2 : ln = 60) : Met l yX8_append wsX8_append rmkX8_append_bad2 (va_Pc [.ref m0, .int p1] (kPre D sz [(m0, .inr (8, [.ref m1, .ref m2, .int (nI sm), .ref m3, .int (nI ln), .int th, .ref m4, .int lf, .int kp, .ref m5, .int (nI sp), .ref m6, .int (nI tm)]))] (kT cI cC cJ cZ cQ))) (kQi D 0 [(m0, .inr (8, [.ref m1, .ref m2, .int (nI sm), .ref m3, .int (nI ln), .int 2, .ref m4, .int lf, .int kp, .ref m5, .int (nI sp), .ref m6, .int (nI tm)]))] (va_A [(m0, .inr (8, [.ref m1, .ref m2, .int (nI sm), .ref m3, .int (nI ln), .int th, .ref m4, .int lf, .int kp, .ref m5, .int (nI sp), .ref m6, .int (nI tm)]))] sz)) 0 0 (va_A [(m0, .inr (8, [.ref m1, .ref m2, .int (nI sm), .ref m3, .int (nI ln), .int th, .ref m4, .int lf, .int kp, .ref m5, .int (nI sp), .ref m6, .int (nI tm)]))] sz) := by
  refine k_met (Qf := kQi D 0 [(m0, .inr (8, [.ref m1, .ref m2, .int (nI sm), .ref m3, .int (nI ln), .int 2, .ref m4, .int lf, .int kp, .ref m5, .int (nI sp), .ref m6, .int (nI tm)]))]) (cc := cX8_append) (maxL := 2) (ret := (some .int)) (own := RX8) (by decide) rfl (Nat.le_of_ble_eq_true rfl) rfl ?_
  intro p e s m args below meth c ls A H locs hx hb hr hts hown hlocks hml hin hsz hP hK hD hA hS hN hl
  have hl : lv_has ls 2 [(0, .ref m0), (1, .int p1)] := hl
  refine lv_aload_n hx hb dX8_append_0 rfl (lv_at hl 0 rfl) ?_
  refine lv_iload_n hx hb dX8_append_1 rfl (lv_at hl 1 rfl) ?_
  refine lv_bipush (v := 33) hx hb dX8_append_2 (by decide) ?_
  refine lv_bipush (v := 126) hx hb dX8_append_4 (by decide) ?_
  refine ks_i0 (As := [.int p1, .int 33, .int 126]) (rest := [.ref m0]) ⟨hx, hb, hml, hown, hts⟩ (kX8_in l p1 33 126) (va_cwS 3 hts gX8_append_X8_in rfl rfl rfl (by decide +kernel) ⟨Nat.le_of_ble_eq_true rfl, Nat.le_of_ble_eq_true rfl⟩) hP hS rfl hl.1 rfl (Nat.le_of_ble_eq_true rfl) dX8_append_6 ⟨Nat.zero_le _, Nat.zero_le _⟩ (fun H locs hP hS => ?_)
  refine lv_if_ne (tgt := 16) hx hb dX8_append_9 (by decide) (fun c_9 => ?_) (fun c_9 => ?_)
  · refine lv_aload_n hx hb dX8_append_16 rfl (lv_at hl 0 rfl) ?_
    refine va_get (D := D) (ci := 8) (v := .int (nI ln)) (C := RX8) (T := TX8) (N := 13) hx hb hts inkX8_append_bad2_8 hown hK hP 0 rfl rfl 4 (by decide) (hts (.fieldLink RX8 107 "WeighingConverterModel" "length" "I") (List.mem_of_getElem? (i := 1) rfl)) (fun _ h9 => h9) rfl dX8_append_17 ?_
    refine lv_bipush (v := 60) hx hb dX8_append_20 (by decide) ?_
    refine lv_icmp_ne (tgt := 29) hx hb dX8_append_22 (by decide) (fun c_22 => ?_) (fun c_22 => ?_)
    · have c_22 : ¬ ln = 60 := fun h => c_22 ((nI_eq (a := ln) (b := 60) (by omega) (by omega)).mpr h)
      exact absurd h2 c_22
    · have c_22 : ln = 60 := (nI_eq (a := ln) (b := 60) (by omega) (by omega)).mp c_22
      refine lv_iconst (v := 2) hx hb dX8_append_25 (by decide) ?_
      refine lv_goto (tgt := 30) hx hb dX8_append_26 (by decide) ?_
      refine kv_i (As := [.int 2]) (rest := []) (wr := []) ⟨hx, hb, hml, hown, hts⟩ (kX8_refused l D H.size cI cC cJ cZ cQ m0 m1 m2 m3 m4 m5 m6 sm ln sp tm th lf kp 2) (cwV 1 hts gX8_append_X8_refused rfl rfl rfl (by decide +kernel) ⟨Nat.le_of_ble_eq_true rfl, Nat.le_of_ble_eq_true rfl⟩) hP hD hK hS hA hN [0] [] rfl rfl (by decide) (by decide) (by decide) 0 8 rfl rfl rfl rfl hl.1 rfl (Nat.le_of_ble_eq_true rfl) dX8_append_30 ⟨Nat.zero_le _, Nat.zero_le _⟩ (fun H locs hP hD hS => ?_)
      have hP : va_P D vwCl [(m0, .inr (8, [.ref m1, .ref m2, .int (nI sm), .ref m3, .int (nI ln), .int 2, .ref m4, .int lf, .int kp, .ref m5, .int (nI sp), .ref m6, .int (nI tm)]))] H := hP
      have hD : va_D A [(m0, .inr (8, [.ref m1, .ref m2, .int (nI sm), .ref m3, .int (nI ln), .int 2, .ref m4, .int lf, .int kp, .ref m5, .int (nI sp), .ref m6, .int (nI tm)]))] := hD
      refine k_topi (y := 1) rfl ?_
      refine lv_if_eq (tgt := 38) hx hb dX8_append_33 (by decide) (fun h => absurd h (by decide)) (fun _ => ?_)
      refine lv_iconst (v := 0) hx hb dX8_append_36 (by decide) ?_
      have hP9 := hP.sub (ws' := [(m0, .inr (8, [.ref m1, .ref m2, .int (nI sm), .ref m3, .int (nI ln), .int 2, .ref m4, .int lf, .int kp, .ref m5, .int (nI sp), .ref m6, .int (nI tm)]))]) [0] rfl
      have hD9 := hD.sub (ws' := [(m0, .inr (8, [.ref m1, .ref m2, .int (nI sm), .ref m3, .int (nI ln), .int 2, .ref m4, .int lf, .int kp, .ref m5, .int (nI sp), .ref m6, .int (nI tm)]))]) [0] (by decide) rfl
      exact kr_i (v := 0) hx hb hr hlocks hP9 hD9 hS rfl dX8_append_37
  · exact absurd c_9 h1

theorem inkX8_undo_bad1_8 : ∀ w ∈ wsX80, w ∈ wsX8_undo := fun _ h => List.mem_cons_of_mem _ (List.mem_append_right _ h)
abbrev rmkX8_undo_bad1 : Room := { frames := 1, cells := 0, slots := 0, locals := 21 }
set_option maxHeartbeats 4000000 in
set_option maxRecDepth 100000 in
theorem kX8_undo_bad1 (l : Launch) (D : va_G) (sz : Nat) (cI : ClassId) (cC : ClassId) (cJ : ClassId) (cZ : ClassId) (cQ : ClassId) (m0 : Nat) (m1 : Nat) (m2 : Nat) (m3 : Nat) (m4 : Nat) (m5 : Nat) (m6 : Nat) (sm : Nat) (ln : Nat) (sp : Nat) (tm : Nat) (th : Int32) (lf : Int32) (kp : Int32) (h1 : sm = 0) : Met l yX8_undo wsX8_undo rmkX8_undo_bad1 (va_Pc [.ref m0] (kPre D sz [(m0, .inr (8, [.ref m1, .ref m2, .int (nI sm), .ref m3, .int (nI ln), .int th, .ref m4, .int lf, .int kp, .ref m5, .int (nI sp), .ref m6, .int (nI tm)]))] (kT cI cC cJ cZ cQ))) (kQi D 0 [(m0, .inr (8, [.ref m1, .ref m2, .int (nI sm), .ref m3, .int (nI ln), .int 1, .ref m4, .int lf, .int kp, .ref m5, .int (nI sp), .ref m6, .int (nI tm)]))] (va_A [(m0, .inr (8, [.ref m1, .ref m2, .int (nI sm), .ref m3, .int (nI ln), .int th, .ref m4, .int lf, .int kp, .ref m5, .int (nI sp), .ref m6, .int (nI tm)]))] sz)) 0 0 (va_A [(m0, .inr (8, [.ref m1, .ref m2, .int (nI sm), .ref m3, .int (nI ln), .int th, .ref m4, .int lf, .int kp, .ref m5, .int (nI sp), .ref m6, .int (nI tm)]))] sz) := by
  refine k_met (Qf := kQi D 0 [(m0, .inr (8, [.ref m1, .ref m2, .int (nI sm), .ref m3, .int (nI ln), .int 1, .ref m4, .int lf, .int kp, .ref m5, .int (nI sp), .ref m6, .int (nI tm)]))]) (cc := cX8_undo) (maxL := 1) (ret := (some .int)) (own := RX8) (by decide) rfl (Nat.le_of_ble_eq_true rfl) rfl ?_
  intro p e s m args below meth c ls A H locs hx hb hr hts hown hlocks hml hin hsz hP hK hD hA hS hN hl
  have hl : lv_has ls 1 [(0, .ref m0)] := hl
  refine lv_aload_n hx hb dX8_undo_0 rfl (lv_at hl 0 rfl) ?_
  refine lv_aload_n hx hb dX8_undo_1 rfl (lv_at hl 0 rfl) ?_
  refine va_get (D := D) (ci := 8) (v := .int (nI sm)) (C := RX8) (T := TX8) (N := 13) hx hb hts inkX8_undo_bad1_8 hown hK hP 0 rfl rfl 2 (by decide) (hts (.fieldLink RX8 37 "WeighingConverterModel" "savedMany" "I") (List.mem_of_getElem? (i := 1) rfl)) (fun _ h9 => h9) rfl dX8_undo_2 ?_
  refine lv_if_ne (tgt := 12) hx hb dX8_undo_5 (by decide) (fun c_5 => ?_) (fun c_5 => ?_)
  · have c_5 : ¬ sm = 0 := fun h => c_5 ((nI_eq (a := sm) (b := 0) (by omega) (by omega)).mpr h)
    exact absurd h1 c_5
  · have c_5 : sm = 0 := (nI_eq (a := sm) (b := 0) (by omega) (by omega)).mp c_5
    refine lv_iconst (v := 1) hx hb dX8_undo_8 (by decide) ?_
    refine lv_goto (tgt := 13) hx hb dX8_undo_9 (by decide) ?_
    refine kv_i (As := [.int 1]) (rest := []) (wr := []) ⟨hx, hb, hml, hown, hts⟩ (kX8_refused l D H.size cI cC cJ cZ cQ m0 m1 m2 m3 m4 m5 m6 sm ln sp tm th lf kp 1) (cwV 1 hts gX8_undo_X8_refused rfl rfl rfl (by decide +kernel) ⟨Nat.le_of_ble_eq_true rfl, Nat.le_of_ble_eq_true rfl⟩) hP hD hK hS hA hN [0] [] rfl rfl (by decide) (by decide) (by decide) 0 8 rfl rfl rfl rfl hl.1 rfl (Nat.le_of_ble_eq_true rfl) dX8_undo_13 ⟨Nat.zero_le _, Nat.zero_le _⟩ (fun H locs hP hD hS => ?_)
    have hP : va_P D vwCl [(m0, .inr (8, [.ref m1, .ref m2, .int (nI sm), .ref m3, .int (nI ln), .int 1, .ref m4, .int lf, .int kp, .ref m5, .int (nI sp), .ref m6, .int (nI tm)]))] H := hP
    have hD : va_D A [(m0, .inr (8, [.ref m1, .ref m2, .int (nI sm), .ref m3, .int (nI ln), .int 1, .ref m4, .int lf, .int kp, .ref m5, .int (nI sp), .ref m6, .int (nI tm)]))] := hD
    refine k_topi (y := 1) rfl ?_
    refine lv_if_eq (tgt := 21) hx hb dX8_undo_16 (by decide) (fun h => absurd h (by decide)) (fun _ => ?_)
    refine lv_iconst (v := 0) hx hb dX8_undo_19 (by decide) ?_
    have hP9 := hP.sub (ws' := [(m0, .inr (8, [.ref m1, .ref m2, .int (nI sm), .ref m3, .int (nI ln), .int 1, .ref m4, .int lf, .int kp, .ref m5, .int (nI sp), .ref m6, .int (nI tm)]))]) [0] rfl
    have hD9 := hD.sub (ws' := [(m0, .inr (8, [.ref m1, .ref m2, .int (nI sm), .ref m3, .int (nI ln), .int 1, .ref m4, .int lf, .int kp, .ref m5, .int (nI sp), .ref m6, .int (nI tm)]))]) [0] (by decide) rfl
    exact kr_i (v := 0) hx hb hr hlocks hP9 hD9 hS rfl dX8_undo_20

abbrev rmkX8_load_bad1 : Room := { frames := 4, cells := 0, slots := 0, locals := 87 }
set_option maxHeartbeats 4000000 in
set_option maxRecDepth 100000 in
theorem kX8_load_bad1 (l : Launch) (D : va_G) (sz : Nat) (cI : ClassId) (cC : ClassId) (cJ : ClassId) (cZ : ClassId) (cQ : ClassId) (m0 : Nat) (m1 : Nat) (m2 : Nat) (m3 : Nat) (m4 : Nat) (m5 : Nat) (m6 : Nat) (sm : Nat) (ln : Nat) (sp : Nat) (tm : Nat) (th : Int32) (lf : Int32) (kp : Int32) (mx : Nat → Int32) (to : Nat → Int32) (hln : ln ≤ 60) (hrt : rtR ln (rtGo mx ln 13 (rdW mx ln 0 0 to)) = 0) : Met l yX8_load wsX8_load rmkX8_load_bad1 (va_Pc [.ref m0] (kPre D sz [(m0, .inr (8, [.ref m1, .ref m2, .int (nI sm), .ref m3, .int (nI ln), .int th, .ref m4, .int lf, .int kp, .ref m5, .int (nI sp), .ref m6, .int (nI tm)])), (m3, .inl (cI, 60, .inl mx)), (m6, .inl (cI, 12, .inl to))] (kT cI cC cJ cZ cQ))) (kQi D 0 [(m0, .inr (8, [.ref m1, .ref m2, .int (nI sm), .ref m3, .int (nI ln), .int 1, .ref m4, .int lf, .int kp, .ref m5, .int (nI ((rtGo mx ln 13 (rdW mx ln 0 0 to)).2.1)), .ref m6, .int (nI ((rtGo mx ln 13 (rdW mx ln 0 0 to)).2.2.1))])), (m3, .inl (cI, 60, .inl mx)), (m6, .inl (cI, 12, .inl ((rtGo mx ln 13 (rdW mx ln 0 0 to)).2.2.2)))] (va_A [(m0, .inr (8, [.ref m1, .ref m2, .int (nI sm), .ref m3, .int (nI ln), .int th, .ref m4, .int lf, .int kp, .ref m5, .int (nI sp), .ref m6, .int (nI tm)])), (m3, .inl (cI, 60, .inl mx)), (m6, .inl (cI, 12, .inl to))] sz)) 0 0 (va_A [(m0, .inr (8, [.ref m1, .ref m2, .int (nI sm), .ref m3, .int (nI ln), .int th, .ref m4, .int lf, .int kp, .ref m5, .int (nI sp), .ref m6, .int (nI tm)])), (m3, .inl (cI, 60, .inl mx)), (m6, .inl (cI, 12, .inl to))] sz) := by
  refine k_met (Qf := kQi D 0 [(m0, .inr (8, [.ref m1, .ref m2, .int (nI sm), .ref m3, .int (nI ln), .int 1, .ref m4, .int lf, .int kp, .ref m5, .int (nI ((rtGo mx ln 13 (rdW mx ln 0 0 to)).2.1)), .ref m6, .int (nI ((rtGo mx ln 13 (rdW mx ln 0 0 to)).2.2.1))])), (m3, .inl (cI, 60, .inl mx)), (m6, .inl (cI, 12, .inl ((rtGo mx ln 13 (rdW mx ln 0 0 to)).2.2.2)))]) (cc := cX8_load) (maxL := 2) (ret := (some .int)) (own := RX8) (by decide) rfl (Nat.le_of_ble_eq_true rfl) rfl ?_
  intro p e s m args below meth c ls A H locs hx hb hr hts hown hlocks hml hin hsz hP hK hD hA hS hN hl
  have hl : lv_has ls 2 [(0, .ref m0)] := hl
  refine lv_aload_n hx hb dX8_load_0 rfl (lv_at hl 0 rfl) ?_
  refine lv_aload_n hx hb dX8_load_1 rfl (lv_at hl 0 rfl) ?_
  refine kv_i (As := []) (rest := [.ref m0]) (wr := []) ⟨hx, hb, hml, hown, hts⟩ (kX8_readText l D H.size cI cC cJ cZ cQ m0 m1 m2 m3 m4 m5 m6 sm ln sp tm th lf kp mx to (by first | assumption | omega)) (cwV 0 hts gX8_load_X8_readText rfl rfl rfl (by decide +kernel) ⟨Nat.le_of_ble_eq_true rfl, Nat.le_of_ble_eq_true rfl⟩) hP hD hK hS hA hN [0, 1, 2] [] rfl rfl (by decide) (by decide) (by decide) 0 8 rfl rfl rfl rfl hl.1 rfl (Nat.le_of_ble_eq_true rfl) dX8_load_2 ⟨Nat.zero_le _, Nat.zero_le _⟩ (fun H locs hP hD hS => ?_)
  have hP : va_P D vwCl [(m0, .inr (8, [.ref m1, .ref m2, .int (nI sm), .ref m3, .int (nI ln), .int th, .ref m4, .int lf, .int kp, .ref m5, .int (nI ((rtGo mx ln 13 (rdW mx ln 0 0 to)).2.1)), .ref m6, .int (nI ((rtGo mx ln 13 (rdW mx ln 0 0 to)).2.2.1))])), (m3, .inl (cI, 60, .inl mx)), (m6, .inl (cI, 12, .inl ((rtGo mx ln 13 (rdW mx ln 0 0 to)).2.2.2)))] H := hP
  have hD : va_D A [(m0, .inr (8, [.ref m1, .ref m2, .int (nI sm), .ref m3, .int (nI ln), .int th, .ref m4, .int lf, .int kp, .ref m5, .int (nI ((rtGo mx ln 13 (rdW mx ln 0 0 to)).2.1)), .ref m6, .int (nI ((rtGo mx ln 13 (rdW mx ln 0 0 to)).2.2.1))])), (m3, .inl (cI, 60, .inl mx)), (m6, .inl (cI, 12, .inl ((rtGo mx ln 13 (rdW mx ln 0 0 to)).2.2.2)))] := hD
  refine k_topi (y := 0) hrt ?_
  refine lv_if_eq (tgt := 12) hx hb dX8_load_5 (by decide) (fun _ => ?_) (fun h => absurd h (by decide))
  refine lv_iconst (v := 1) hx hb dX8_load_12 (by decide) ?_
  refine kv_i (As := [.int 1]) (rest := []) (wr := [(m3, .inl (cI, 60, .inl mx)), (m6, .inl (cI, 12, .inl ((rtGo mx ln 13 (rdW mx ln 0 0 to)).2.2.2)))]) ⟨hx, hb, hml, hown, hts⟩ (kX8_refused l D H.size cI cC cJ cZ cQ m0 m1 m2 m3 m4 m5 m6 sm ln ((rtGo mx ln 13 (rdW mx ln 0 0 to)).2.1) ((rtGo mx ln 13 (rdW mx ln 0 0 to)).2.2.1) th lf kp 1) (cwV 1 hts gX8_load_X8_refused rfl rfl rfl (by decide +kernel) ⟨Nat.le_of_ble_eq_true rfl, Nat.le_of_ble_eq_true rfl⟩) hP hD hK hS hA hN [0] [1, 2] rfl rfl (by decide) (by decide) (by decide) 0 8 rfl rfl rfl rfl hl.1 rfl (Nat.le_of_ble_eq_true rfl) dX8_load_13 ⟨Nat.zero_le _, Nat.zero_le _⟩ (fun H locs hP hD hS => ?_)
  have hP : va_P D vwCl [(m3, .inl (cI, 60, .inl mx)), (m6, .inl (cI, 12, .inl ((rtGo mx ln 13 (rdW mx ln 0 0 to)).2.2.2))), (m0, .inr (8, [.ref m1, .ref m2, .int (nI sm), .ref m3, .int (nI ln), .int 1, .ref m4, .int lf, .int kp, .ref m5, .int (nI ((rtGo mx ln 13 (rdW mx ln 0 0 to)).2.1)), .ref m6, .int (nI ((rtGo mx ln 13 (rdW mx ln 0 0 to)).2.2.1))]))] H := hP
  have hD : va_D A [(m3, .inl (cI, 60, .inl mx)), (m6, .inl (cI, 12, .inl ((rtGo mx ln 13 (rdW mx ln 0 0 to)).2.2.2))), (m0, .inr (8, [.ref m1, .ref m2, .int (nI sm), .ref m3, .int (nI ln), .int 1, .ref m4, .int lf, .int kp, .ref m5, .int (nI ((rtGo mx ln 13 (rdW mx ln 0 0 to)).2.1)), .ref m6, .int (nI ((rtGo mx ln 13 (rdW mx ln 0 0 to)).2.2.1))]))] := hD
  refine k_topi (y := 1) rfl ?_
  refine lv_if_eq (tgt := 21) hx hb dX8_load_16 (by decide) (fun h => absurd h (by decide)) (fun _ => ?_)
  refine lv_iconst (v := 0) hx hb dX8_load_19 (by decide) ?_
  have hP9 := hP.sub (ws' := [(m0, .inr (8, [.ref m1, .ref m2, .int (nI sm), .ref m3, .int (nI ln), .int 1, .ref m4, .int lf, .int kp, .ref m5, .int (nI ((rtGo mx ln 13 (rdW mx ln 0 0 to)).2.1)), .ref m6, .int (nI ((rtGo mx ln 13 (rdW mx ln 0 0 to)).2.2.1))])), (m3, .inl (cI, 60, .inl mx)), (m6, .inl (cI, 12, .inl ((rtGo mx ln 13 (rdW mx ln 0 0 to)).2.2.2)))]) [2, 0, 1] rfl
  have hD9 := hD.sub (ws' := [(m0, .inr (8, [.ref m1, .ref m2, .int (nI sm), .ref m3, .int (nI ln), .int 1, .ref m4, .int lf, .int kp, .ref m5, .int (nI ((rtGo mx ln 13 (rdW mx ln 0 0 to)).2.1)), .ref m6, .int (nI ((rtGo mx ln 13 (rdW mx ln 0 0 to)).2.2.1))])), (m3, .inl (cI, 60, .inl mx)), (m6, .inl (cI, 12, .inl ((rtGo mx ln 13 (rdW mx ln 0 0 to)).2.2.2)))]) [2, 0, 1] (by decide) rfl
  exact kr_i (v := 0) hx hb hr hlocks hP9 hD9 hS rfl dX8_load_20

theorem inX8_sortWeights_8 : ∀ w ∈ wsX80, w ∈ wsX8_sortWeights := fun _ h => List.mem_cons_of_mem _ (List.mem_append_right _ h)
abbrev rmkX8_sortWeights : Room := { frames := 2, cells := 0, slots := 0, locals := 45 }
set_option maxHeartbeats 4000000 in
set_option maxRecDepth 100000 in
theorem kX8_sortWeights (l : Launch) (D : va_G) (sz : Nat) (cI : ClassId) (cC : ClassId) (cJ : ClassId) (cZ : ClassId) (cQ : ClassId) (m0 : Nat) (m1 : Nat) (m2 : Nat) (m3 : Nat) (m4 : Nat) (m5 : Nat) (m6 : Nat) (sm : Nat) (ln : Nat) (sp : Nat) (tm : Nat) (th : Int32) (lf : Int32) (kp : Int32) (z : StV) (T : Nat → StV) (so : Nat → Int32) (hsm : sm ≤ 6) (hwc : z.2.2.2.2.2.1 ≤ 12) : Met l yX8_sortWeights wsX8_sortWeights rmkX8_sortWeights (va_Pc [.ref m0] (kPre D sz [(m0, .inr (8, [.ref m1, .ref m2, .int (nI sm), .ref m3, .int (nI ln), .int th, .ref m4, .int lf, .int kp, .ref m5, .int (nI sp), .ref m6, .int (nI tm)])), (m1, .inl (cI, 43, .inl (zArr z))), (m2, .inl (cI, 258, .inl (sArr T))), (m4, .inl (cI, 12, .inl so))] (kT cI cC cJ cZ cQ))) (kQi D (nI (misp z.2.2.2.2.2.2.2.1 z.2.2.2.2.2.1 z.2.2.2.2.2.1)) [(m0, .inr (8, [.ref m1, .ref m2, .int (nI (min (sm + 1) 6)), .ref m3, .int (nI ln), .int 0, .ref m4, .int lf, .int kp, .ref m5, .int (nI sp), .ref m6, .int (nI tm)])), (m1, .inl (cI, 43, .inl (zArr (z.1, z.2.1, z.2.2.1, z.2.2.2.1, z.2.2.2.2.1, z.2.2.2.2.2.1, z.2.2.2.2.2.2.1, rkF z.2.2.2.2.2.2.2.1 z.2.2.2.2.2.1 so, z.2.2.2.2.2.2.2.2.1, z.2.2.2.2.2.2.2.2.2.1, z.2.2.2.2.2.2.2.2.2.2)))), (m2, .inl (cI, 258, .inl (sArr (svS T sm z)))), (m4, .inl (cI, 12, .inl (rkS z.2.2.2.2.2.2.2.1 z.2.2.2.2.2.1 so z.2.2.2.2.2.1)))] (va_A [(m0, .inr (8, [.ref m1, .ref m2, .int (nI sm), .ref m3, .int (nI ln), .int th, .ref m4, .int lf, .int kp, .ref m5, .int (nI sp), .ref m6, .int (nI tm)])), (m1, .inl (cI, 43, .inl (zArr z))), (m2, .inl (cI, 258, .inl (sArr T))), (m4, .inl (cI, 12, .inl so))] sz)) 0 0 (va_A [(m0, .inr (8, [.ref m1, .ref m2, .int (nI sm), .ref m3, .int (nI ln), .int th, .ref m4, .int lf, .int kp, .ref m5, .int (nI sp), .ref m6, .int (nI tm)])), (m1, .inl (cI, 43, .inl (zArr z))), (m2, .inl (cI, 258, .inl (sArr T))), (m4, .inl (cI, 12, .inl so))] sz) := by
  refine k_met (Qf := kQi D (nI (misp z.2.2.2.2.2.2.2.1 z.2.2.2.2.2.1 z.2.2.2.2.2.1)) [(m0, .inr (8, [.ref m1, .ref m2, .int (nI (min (sm + 1) 6)), .ref m3, .int (nI ln), .int 0, .ref m4, .int lf, .int kp, .ref m5, .int (nI sp), .ref m6, .int (nI tm)])), (m1, .inl (cI, 43, .inl (zArr (z.1, z.2.1, z.2.2.1, z.2.2.2.1, z.2.2.2.2.1, z.2.2.2.2.2.1, z.2.2.2.2.2.2.1, rkF z.2.2.2.2.2.2.2.1 z.2.2.2.2.2.1 so, z.2.2.2.2.2.2.2.2.1, z.2.2.2.2.2.2.2.2.2.1, z.2.2.2.2.2.2.2.2.2.2)))), (m2, .inl (cI, 258, .inl (sArr (svS T sm z)))), (m4, .inl (cI, 12, .inl (rkS z.2.2.2.2.2.2.2.1 z.2.2.2.2.2.1 so z.2.2.2.2.2.1)))]) (cc := cX8_sortWeights) (maxL := 3) (ret := (some .int)) (own := RX8) (by decide) rfl (Nat.le_of_ble_eq_true rfl) rfl ?_
  intro p e s m args below meth c ls A H locs hx hb hr hts hown hlocks hml hin hsz hP hK hD hA hS hN hl
  have hl : lv_has ls 3 [(0, .ref m0)] := hl
  refine lv_aload_n hx hb dX8_sortWeights_0 rfl (lv_at hl 0 rfl) ?_
  refine lv_iconst (v := 0) hx hb dX8_sortWeights_1 (by decide) ?_
  refine va_put (D := D) (ci := 8) (v := .int 0) (ty := .int) (C := RX8) (T := TX8) (N := 13) hx hb hts inX8_sortWeights_8 tyX8 tyX8_ok nmX8 hown hK hP hD hS 0 rfl rfl 5 (by decide) (hts (.fieldLink RX8 29 "WeighingConverterModel" "thrown" "I") (List.mem_of_getElem? (i := 1) rfl)) (fun _ h9 => h9) rfl (by decide +kernel) rfl rfl (Nat.le_of_ble_eq_true rfl) dX8_sortWeights_2 (fun H locs hP hD hS => ?_)
  have hP : va_P D vwCl [(m0, .inr (8, [.ref m1, .ref m2, .int (nI sm), .ref m3, .int (nI ln), .int 0, .ref m4, .int lf, .int kp, .ref m5, .int (nI sp), .ref m6, .int (nI tm)])), (m1, .inl (cI, 43, .inl (zArr z))), (m2, .inl (cI, 258, .inl (sArr T))), (m4, .inl (cI, 12, .inl so))] H := hP
  have hD : va_D A [(m0, .inr (8, [.ref m1, .ref m2, .int (nI sm), .ref m3, .int (nI ln), .int 0, .ref m4, .int lf, .int kp, .ref m5, .int (nI sp), .ref m6, .int (nI tm)])), (m1, .inl (cI, 43, .inl (zArr z))), (m2, .inl (cI, 258, .inl (sArr T))), (m4, .inl (cI, 12, .inl so))] := hD
  refine lv_aload_n hx hb dX8_sortWeights_5 rfl (lv_at hl 0 rfl) ?_
  refine kv_v (As := []) (rest := []) (wr := [(m4, .inl (cI, 12, .inl so))]) ⟨hx, hb, hml, hown, hts⟩ (kX8_saveState l D H.size cI cC cJ cZ cQ m0 m1 m2 m3 m4 m5 m6 sm ln sp tm 0 lf kp z T (by first | assumption | omega)) (cwV 0 hts gX8_sortWeights_X8_saveState rfl rfl rfl (by decide +kernel) ⟨Nat.le_of_ble_eq_true rfl, Nat.le_of_ble_eq_true rfl⟩) hP hD hK hS hA hN [0, 1, 2] [3] rfl rfl (by decide) (by decide) (by decide) 0 8 rfl rfl rfl rfl hl.1 rfl (Nat.le_of_ble_eq_true rfl) dX8_sortWeights_6 ⟨Nat.zero_le _, Nat.zero_le _⟩ (fun H locs hP hD hS => ?_)
  have hP : va_P D vwCl [(m4, .inl (cI, 12, .inl so)), (m0, .inr (8, [.ref m1, .ref m2, .int (nI (min (sm + 1) 6)), .ref m3, .int (nI ln), .int 0, .ref m4, .int lf, .int kp, .ref m5, .int (nI sp), .ref m6, .int (nI tm)])), (m1, .inl (cI, 43, .inl (zArr z))), (m2, .inl (cI, 258, .inl (sArr (svS T sm z))))] H := hP
  have hD : va_D A [(m4, .inl (cI, 12, .inl so)), (m0, .inr (8, [.ref m1, .ref m2, .int (nI (min (sm + 1) 6)), .ref m3, .int (nI ln), .int 0, .ref m4, .int lf, .int kp, .ref m5, .int (nI sp), .ref m6, .int (nI tm)])), (m1, .inl (cI, 43, .inl (zArr z))), (m2, .inl (cI, 258, .inl (sArr (svS T sm z))))] := hD
  refine lv_iconst (v := 0) hx hb dX8_sortWeights_9 (by decide) ?_
  refine lv_istore_n (lv' := [(1, .int 0), (0, .ref m0)]) hx hb dX8_sortWeights_10 rfl hl (by decide) rfl (fun ls hl => ?_)
  refine lv_iconst (v := 0) hx hb dX8_sortWeights_11 (by decide) ?_
  refine lv_istore_n (lv' := [(2, .int 0), (1, .int 0), (0, .ref m0)]) hx hb dX8_sortWeights_12 rfl hl (by decide) rfl (fun ls hl => ?_)
  have J13 : ∀ (fuel : Nat) (k : Nat) (b : Nat) (hk : k ≤ z.2.2.2.2.2.1) (hb9 : b = misp z.2.2.2.2.2.2.2.1 z.2.2.2.2.2.1 k) (hm : z.2.2.2.2.2.1 - k < fuel) (H : Heap) (locs : List Loc) (hP : va_P D vwCl [(m4, .inl (cI, 12, .inl (rkS z.2.2.2.2.2.2.2.1 z.2.2.2.2.2.1 so k))), (m0, .inr (8, [.ref m1, .ref m2, .int (nI (min (sm + 1) 6)), .ref m3, .int (nI ln), .int 0, .ref m4, .int lf, .int kp, .ref m5, .int (nI sp), .ref m6, .int (nI tm)])), (m1, .inl (cI, 43, .inl (zArr z))), (m2, .inl (cI, 258, .inl (sArr (svS T sm z))))] H) (hD : va_D A [(m4, .inl (cI, 12, .inl (rkS z.2.2.2.2.2.2.2.1 z.2.2.2.2.2.1 so k))), (m0, .inr (8, [.ref m1, .ref m2, .int (nI (min (sm + 1) 6)), .ref m3, .int (nI ln), .int 0, .ref m4, .int lf, .int kp, .ref m5, .int (nI sp), .ref m6, .int (nI tm)])), (m1, .inl (cI, 43, .inl (zArr z))), (m2, .inl (cI, 258, .inl (sArr (svS T sm z))))]) (hS : va_S A s.heap H locs) (ls : Array Slot) (hl : lv_has ls 3 [(2, .int (nI k)), (1, .int (nI b)), (0, .ref m0)]), W p l e rmkX8_sortWeights s m args below meth c H locs 0 0 (MQ below (kQi D (nI (misp z.2.2.2.2.2.2.2.1 z.2.2.2.2.2.1 z.2.2.2.2.2.1)) [(m0, .inr (8, [.ref m1, .ref m2, .int (nI (min (sm + 1) 6)), .ref m3, .int (nI ln), .int 0, .ref m4, .int lf, .int kp, .ref m5, .int (nI sp), .ref m6, .int (nI tm)])), (m1, .inl (cI, 43, .inl (zArr (z.1, z.2.1, z.2.2.1, z.2.2.2.1, z.2.2.2.2.1, z.2.2.2.2.2.1, z.2.2.2.2.2.2.1, rkF z.2.2.2.2.2.2.2.1 z.2.2.2.2.2.1 so, z.2.2.2.2.2.2.2.2.1, z.2.2.2.2.2.2.2.2.2.1, z.2.2.2.2.2.2.2.2.2.2)))), (m2, .inl (cI, 258, .inl (sArr (svS T sm z)))), (m4, .inl (cI, 12, .inl (rkS z.2.2.2.2.2.2.2.1 z.2.2.2.2.2.1 so z.2.2.2.2.2.1)))] A) args s 0 0 A) (F0 m 13 ls []) := by
    intro fuel
    induction fuel with
    | zero => intro k b hk hb9 hm; exact absurd hm (Nat.not_lt_zero _)
    | succ fuel ih13 =>
      intro k b hk hb9 hm H locs hP hD hS ls hl
      refine lv_iload_n hx hb dX8_sortWeights_13 rfl (lv_at hl 0 rfl) ?_
      refine lv_aload_n hx hb dX8_sortWeights_14 rfl (lv_at hl 2 rfl) ?_
      refine va_get (D := D) (ci := 8) (v := .ref m1) (C := RX8) (T := TX8) (N := 13) hx hb hts inX8_sortWeights_8 hown hK hP 1 rfl rfl 0 (by decide) (hts (.fieldLink RX8 7 "WeighingConverterModel" "z" "[I") (List.mem_of_getElem? (i := 2) rfl)) (fun _ h9 => h9) rfl dX8_sortWeights_15 ?_
      refine lv_iconst (v := 5) hx hb dX8_sortWeights_18 (by decide) ?_
      refine k_iald (k := 5) hx hb hK hP 2 0 rfl rfl (by omega) (by decide) dX8_sortWeights_19 ?_
      refine k_topi (y := nI z.2.2.2.2.2.1) rfl ?_
      refine lv_icmp_ge (tgt := 65) hx hb dX8_sortWeights_20 (by decide) (fun c_20 => ?_) (fun c_20 => ?_)
      · have c_20 : z.2.2.2.2.2.1 ≤ k := (nI_leI (a := z.2.2.2.2.2.1) (b := k) (by omega) (by omega)).mp c_20
        have hP := k_arr hP 0 rfl (g := rkS z.2.2.2.2.2.2.2.1 z.2.2.2.2.2.1 so z.2.2.2.2.2.1) (fun j _ => by rw [show k = z.2.2.2.2.2.1 from by omega])
        have hD := hD.set (p := 0) (e := .inl (cI, 12, .inl (rkS z.2.2.2.2.2.2.2.1 z.2.2.2.2.2.1 so z.2.2.2.2.2.1))) rfl
        have hP : va_P D vwCl [(m4, .inl (cI, 12, .inl (rkS z.2.2.2.2.2.2.2.1 z.2.2.2.2.2.1 so z.2.2.2.2.2.1))), (m0, .inr (8, [.ref m1, .ref m2, .int (nI (min (sm + 1) 6)), .ref m3, .int (nI ln), .int 0, .ref m4, .int lf, .int kp, .ref m5, .int (nI sp), .ref m6, .int (nI tm)])), (m1, .inl (cI, 43, .inl (zArr z))), (m2, .inl (cI, 258, .inl (sArr (svS T sm z))))] H := hP
        have hD : va_D A [(m4, .inl (cI, 12, .inl (rkS z.2.2.2.2.2.2.2.1 z.2.2.2.2.2.1 so z.2.2.2.2.2.1))), (m0, .inr (8, [.ref m1, .ref m2, .int (nI (min (sm + 1) 6)), .ref m3, .int (nI ln), .int 0, .ref m4, .int lf, .int kp, .ref m5, .int (nI sp), .ref m6, .int (nI tm)])), (m1, .inl (cI, 43, .inl (zArr z))), (m2, .inl (cI, 258, .inl (sArr (svS T sm z))))] := hD
        refine lv_iconst (v := 0) hx hb dX8_sortWeights_65 (by decide) ?_
        refine lv_istore_n (lv' := [(2, .int 0), (1, .int (nI b)), (0, .ref m0)]) hx hb dX8_sortWeights_66 rfl hl (by decide) rfl (fun ls hl => ?_)
        have J67 : ∀ (fuel : Nat) (k2 : Nat) (g2 : Nat → Int32) (hk2 : k2 ≤ z.2.2.2.2.2.1) (hg : ∀ j, g2 j = if j < k2 then rkS z.2.2.2.2.2.2.2.1 z.2.2.2.2.2.1 so z.2.2.2.2.2.1 j else z.2.2.2.2.2.2.2.1 j) (hm : z.2.2.2.2.2.1 - k2 < fuel) (H : Heap) (locs : List Loc) (hP : va_P D vwCl [(m4, .inl (cI, 12, .inl (rkS z.2.2.2.2.2.2.2.1 z.2.2.2.2.2.1 so z.2.2.2.2.2.1))), (m0, .inr (8, [.ref m1, .ref m2, .int (nI (min (sm + 1) 6)), .ref m3, .int (nI ln), .int 0, .ref m4, .int lf, .int kp, .ref m5, .int (nI sp), .ref m6, .int (nI tm)])), (m1, .inl (cI, 43, .inl (zArr (z.1, z.2.1, z.2.2.1, z.2.2.2.1, z.2.2.2.2.1, z.2.2.2.2.2.1, z.2.2.2.2.2.2.1, g2, z.2.2.2.2.2.2.2.2.1, z.2.2.2.2.2.2.2.2.2.1, z.2.2.2.2.2.2.2.2.2.2)))), (m2, .inl (cI, 258, .inl (sArr (svS T sm z))))] H) (hD : va_D A [(m4, .inl (cI, 12, .inl (rkS z.2.2.2.2.2.2.2.1 z.2.2.2.2.2.1 so z.2.2.2.2.2.1))), (m0, .inr (8, [.ref m1, .ref m2, .int (nI (min (sm + 1) 6)), .ref m3, .int (nI ln), .int 0, .ref m4, .int lf, .int kp, .ref m5, .int (nI sp), .ref m6, .int (nI tm)])), (m1, .inl (cI, 43, .inl (zArr (z.1, z.2.1, z.2.2.1, z.2.2.2.1, z.2.2.2.2.1, z.2.2.2.2.2.1, z.2.2.2.2.2.2.1, g2, z.2.2.2.2.2.2.2.2.1, z.2.2.2.2.2.2.2.2.2.1, z.2.2.2.2.2.2.2.2.2.2)))), (m2, .inl (cI, 258, .inl (sArr (svS T sm z))))]) (hS : va_S A s.heap H locs) (ls : Array Slot) (hl : lv_has ls 3 [(2, .int (nI k2)), (1, .int (nI b)), (0, .ref m0)]), W p l e rmkX8_sortWeights s m args below meth c H locs 0 0 (MQ below (kQi D (nI (misp z.2.2.2.2.2.2.2.1 z.2.2.2.2.2.1 z.2.2.2.2.2.1)) [(m0, .inr (8, [.ref m1, .ref m2, .int (nI (min (sm + 1) 6)), .ref m3, .int (nI ln), .int 0, .ref m4, .int lf, .int kp, .ref m5, .int (nI sp), .ref m6, .int (nI tm)])), (m1, .inl (cI, 43, .inl (zArr (z.1, z.2.1, z.2.2.1, z.2.2.2.1, z.2.2.2.2.1, z.2.2.2.2.2.1, z.2.2.2.2.2.2.1, rkF z.2.2.2.2.2.2.2.1 z.2.2.2.2.2.1 so, z.2.2.2.2.2.2.2.2.1, z.2.2.2.2.2.2.2.2.2.1, z.2.2.2.2.2.2.2.2.2.2)))), (m2, .inl (cI, 258, .inl (sArr (svS T sm z)))), (m4, .inl (cI, 12, .inl (rkS z.2.2.2.2.2.2.2.1 z.2.2.2.2.2.1 so z.2.2.2.2.2.1)))] A) args s 0 0 A) (F0 m 67 ls []) := by
          intro fuel
          induction fuel with
          | zero => intro k2 g2 hk2 hg hm; exact absurd hm (Nat.not_lt_zero _)
          | succ fuel ih67 =>
            intro k2 g2 hk2 hg hm H locs hP hD hS ls hl
            refine lv_iload_n hx hb dX8_sortWeights_67 rfl (lv_at hl 0 rfl) ?_
            refine lv_aload_n hx hb dX8_sortWeights_68 rfl (lv_at hl 2 rfl) ?_
            refine va_get (D := D) (ci := 8) (v := .ref m1) (C := RX8) (T := TX8) (N := 13) hx hb hts inX8_sortWeights_8 hown hK hP 1 rfl rfl 0 (by decide) (hts (.fieldLink RX8 7 "WeighingConverterModel" "z" "[I") (List.mem_of_getElem? (i := 2) rfl)) (fun _ h9 => h9) rfl dX8_sortWeights_69 ?_
            refine lv_iconst (v := 5) hx hb dX8_sortWeights_72 (by decide) ?_
            refine k_iald (k := 5) hx hb hK hP 2 0 rfl rfl (by omega) (by decide) dX8_sortWeights_73 ?_
            refine k_topi (y := nI z.2.2.2.2.2.1) rfl ?_
            refine lv_icmp_ge (tgt := 98) hx hb dX8_sortWeights_74 (by decide) (fun c_74 => ?_) (fun c_74 => ?_)
            · have c_74 : z.2.2.2.2.2.1 ≤ k2 := (nI_leI (a := z.2.2.2.2.2.1) (b := k2) (by omega) (by omega)).mp c_74
              refine lv_iload_n hx hb dX8_sortWeights_98 rfl (lv_at hl 1 rfl) ?_
              have hP := k_arr hP 2 rfl (g := zArr (z.1, z.2.1, z.2.2.1, z.2.2.2.1, z.2.2.2.2.1, z.2.2.2.2.2.1, z.2.2.2.2.2.2.1, rkF z.2.2.2.2.2.2.2.1 z.2.2.2.2.2.1 so, z.2.2.2.2.2.2.2.2.1, z.2.2.2.2.2.2.2.2.2.1, z.2.2.2.2.2.2.2.2.2.2)) (fun j _ => zArr_cf _ _ (fun j9 _ => by rw [hg, rkF, show k2 = z.2.2.2.2.2.1 from by omega]) j)
              have hD := hD.set (p := 2) (e := .inl (cI, 43, .inl (zArr (z.1, z.2.1, z.2.2.1, z.2.2.2.1, z.2.2.2.2.1, z.2.2.2.2.2.1, z.2.2.2.2.2.2.1, rkF z.2.2.2.2.2.2.2.1 z.2.2.2.2.2.1 so, z.2.2.2.2.2.2.2.2.1, z.2.2.2.2.2.2.2.2.2.1, z.2.2.2.2.2.2.2.2.2.2)))) rfl
              have hP : va_P D vwCl [(m4, .inl (cI, 12, .inl (rkS z.2.2.2.2.2.2.2.1 z.2.2.2.2.2.1 so z.2.2.2.2.2.1))), (m0, .inr (8, [.ref m1, .ref m2, .int (nI (min (sm + 1) 6)), .ref m3, .int (nI ln), .int 0, .ref m4, .int lf, .int kp, .ref m5, .int (nI sp), .ref m6, .int (nI tm)])), (m1, .inl (cI, 43, .inl (zArr (z.1, z.2.1, z.2.2.1, z.2.2.2.1, z.2.2.2.2.1, z.2.2.2.2.2.1, z.2.2.2.2.2.2.1, rkF z.2.2.2.2.2.2.2.1 z.2.2.2.2.2.1 so, z.2.2.2.2.2.2.2.2.1, z.2.2.2.2.2.2.2.2.2.1, z.2.2.2.2.2.2.2.2.2.2)))), (m2, .inl (cI, 258, .inl (sArr (svS T sm z))))] H := hP
              have hD : va_D A [(m4, .inl (cI, 12, .inl (rkS z.2.2.2.2.2.2.2.1 z.2.2.2.2.2.1 so z.2.2.2.2.2.1))), (m0, .inr (8, [.ref m1, .ref m2, .int (nI (min (sm + 1) 6)), .ref m3, .int (nI ln), .int 0, .ref m4, .int lf, .int kp, .ref m5, .int (nI sp), .ref m6, .int (nI tm)])), (m1, .inl (cI, 43, .inl (zArr (z.1, z.2.1, z.2.2.1, z.2.2.2.1, z.2.2.2.2.1, z.2.2.2.2.2.1, z.2.2.2.2.2.2.1, rkF z.2.2.2.2.2.2.2.1 z.2.2.2.2.2.1 so, z.2.2.2.2.2.2.2.2.1, z.2.2.2.2.2.2.2.2.2.1, z.2.2.2.2.2.2.2.2.2.2)))), (m2, .inl (cI, 258, .inl (sArr (svS T sm z))))] := hD
              have hP9 := hP.sub (ws' := [(m0, .inr (8, [.ref m1, .ref m2, .int (nI (min (sm + 1) 6)), .ref m3, .int (nI ln), .int 0, .ref m4, .int lf, .int kp, .ref m5, .int (nI sp), .ref m6, .int (nI tm)])), (m1, .inl (cI, 43, .inl (zArr (z.1, z.2.1, z.2.2.1, z.2.2.2.1, z.2.2.2.2.1, z.2.2.2.2.2.1, z.2.2.2.2.2.2.1, rkF z.2.2.2.2.2.2.2.1 z.2.2.2.2.2.1 so, z.2.2.2.2.2.2.2.2.1, z.2.2.2.2.2.2.2.2.2.1, z.2.2.2.2.2.2.2.2.2.2)))), (m2, .inl (cI, 258, .inl (sArr (svS T sm z)))), (m4, .inl (cI, 12, .inl (rkS z.2.2.2.2.2.2.2.1 z.2.2.2.2.2.1 so z.2.2.2.2.2.1)))]) [1, 2, 3, 0] rfl
              have hD9 := hD.sub (ws' := [(m0, .inr (8, [.ref m1, .ref m2, .int (nI (min (sm + 1) 6)), .ref m3, .int (nI ln), .int 0, .ref m4, .int lf, .int kp, .ref m5, .int (nI sp), .ref m6, .int (nI tm)])), (m1, .inl (cI, 43, .inl (zArr (z.1, z.2.1, z.2.2.1, z.2.2.2.1, z.2.2.2.2.1, z.2.2.2.2.2.1, z.2.2.2.2.2.2.1, rkF z.2.2.2.2.2.2.2.1 z.2.2.2.2.2.1 so, z.2.2.2.2.2.2.2.2.1, z.2.2.2.2.2.2.2.2.2.1, z.2.2.2.2.2.2.2.2.2.2)))), (m2, .inl (cI, 258, .inl (sArr (svS T sm z)))), (m4, .inl (cI, 12, .inl (rkS z.2.2.2.2.2.2.2.1 z.2.2.2.2.2.1 so z.2.2.2.2.2.1)))]) [1, 2, 3, 0] (by decide) rfl
              exact kr_i (v := nI b) hx hb hr hlocks hP9 hD9 hS (by rw [hb9, show k = z.2.2.2.2.2.1 from by omega]) dX8_sortWeights_99
            · have c_74 : ¬ z.2.2.2.2.2.1 ≤ k2 := fun h => c_74 ((nI_leI (a := z.2.2.2.2.2.1) (b := k2) (by omega) (by omega)).mpr h)
              refine lv_aload_n hx hb dX8_sortWeights_77 rfl (lv_at hl 2 rfl) ?_
              refine va_get (D := D) (ci := 8) (v := .ref m1) (C := RX8) (T := TX8) (N := 13) hx hb hts inX8_sortWeights_8 hown hK hP 1 rfl rfl 0 (by decide) (hts (.fieldLink RX8 7 "WeighingConverterModel" "z" "[I") (List.mem_of_getElem? (i := 2) rfl)) (fun _ h9 => h9) rfl dX8_sortWeights_78 ?_
              refine lv_bipush (v := 7) hx hb dX8_sortWeights_81 (by decide) ?_
              refine lv_iload_n hx hb dX8_sortWeights_83 rfl (lv_at hl 0 rfl) ?_
              refine lv_iadd hx hb dX8_sortWeights_84 ?_
              refine k_topi (y := nI (7 + k2)) (nI_add 7 k2) ?_
              refine lv_aload_n hx hb dX8_sortWeights_85 rfl (lv_at hl 2 rfl) ?_
              refine va_get (D := D) (ci := 8) (v := .ref m4) (C := RX8) (T := TX8) (N := 13) hx hb hts inX8_sortWeights_8 hown hK hP 1 rfl rfl 6 (by decide) (hts (.fieldLink RX8 19 "WeighingConverterModel" "sorted" "[I") (List.mem_of_getElem? (i := 3) rfl)) (fun _ h9 => h9) rfl dX8_sortWeights_86 ?_
              refine lv_iload_n hx hb dX8_sortWeights_89 rfl (lv_at hl 0 rfl) ?_
              refine k_iald (k := k2) hx hb hK hP 0 0 rfl rfl (by omega) (by decide) dX8_sortWeights_90 ?_
              refine k_iast (k := 7 + k2) hx hb hK hP hD hS 2 0 rfl rfl (by omega) (by decide) dX8_sortWeights_91 (fun H locs hP hD hS => ?_)
              have hP : va_P D vwCl [(m4, .inl (cI, 12, .inl (rkS z.2.2.2.2.2.2.2.1 z.2.2.2.2.2.1 so z.2.2.2.2.2.1))), (m0, .inr (8, [.ref m1, .ref m2, .int (nI (min (sm + 1) 6)), .ref m3, .int (nI ln), .int 0, .ref m4, .int lf, .int kp, .ref m5, .int (nI sp), .ref m6, .int (nI tm)])), (m1, .inl (cI, 43, .inl (upd (zArr (z.1, z.2.1, z.2.2.1, z.2.2.2.1, z.2.2.2.2.1, z.2.2.2.2.2.1, z.2.2.2.2.2.2.1, g2, z.2.2.2.2.2.2.2.2.1, z.2.2.2.2.2.2.2.2.2.1, z.2.2.2.2.2.2.2.2.2.2)) (7 + k2) ((rkS z.2.2.2.2.2.2.2.1 z.2.2.2.2.2.1 so z.2.2.2.2.2.1) k2)))), (m2, .inl (cI, 258, .inl (sArr (svS T sm z))))] H := hP
              have hD : va_D A [(m4, .inl (cI, 12, .inl (rkS z.2.2.2.2.2.2.2.1 z.2.2.2.2.2.1 so z.2.2.2.2.2.1))), (m0, .inr (8, [.ref m1, .ref m2, .int (nI (min (sm + 1) 6)), .ref m3, .int (nI ln), .int 0, .ref m4, .int lf, .int kp, .ref m5, .int (nI sp), .ref m6, .int (nI tm)])), (m1, .inl (cI, 43, .inl (upd (zArr (z.1, z.2.1, z.2.2.1, z.2.2.2.1, z.2.2.2.2.1, z.2.2.2.2.2.1, z.2.2.2.2.2.2.1, g2, z.2.2.2.2.2.2.2.2.1, z.2.2.2.2.2.2.2.2.2.1, z.2.2.2.2.2.2.2.2.2.2)) (7 + k2) ((rkS z.2.2.2.2.2.2.2.1 z.2.2.2.2.2.1 so z.2.2.2.2.2.1) k2)))), (m2, .inl (cI, 258, .inl (sArr (svS T sm z))))] := hD
              have hP := k_arr hP 2 rfl (g := zArr (z.1, z.2.1, z.2.2.1, z.2.2.2.1, z.2.2.2.2.1, z.2.2.2.2.2.1, z.2.2.2.2.2.2.1, upd g2 k2 ((rkS z.2.2.2.2.2.2.2.1 z.2.2.2.2.2.1 so z.2.2.2.2.2.1) k2), z.2.2.2.2.2.2.2.2.1, z.2.2.2.2.2.2.2.2.2.1, z.2.2.2.2.2.2.2.2.2.2)) (fun j _ => zArr_sw (z.1, z.2.1, z.2.2.1, z.2.2.2.1, z.2.2.2.2.1, z.2.2.2.2.2.1, z.2.2.2.2.2.2.1, g2, z.2.2.2.2.2.2.2.2.1, z.2.2.2.2.2.2.2.2.2.1, z.2.2.2.2.2.2.2.2.2.2) (by omega) _ j)
              have hD := hD.set (p := 2) (e := .inl (cI, 43, .inl (zArr (z.1, z.2.1, z.2.2.1, z.2.2.2.1, z.2.2.2.2.1, z.2.2.2.2.2.1, z.2.2.2.2.2.2.1, upd g2 k2 ((rkS z.2.2.2.2.2.2.2.1 z.2.2.2.2.2.1 so z.2.2.2.2.2.1) k2), z.2.2.2.2.2.2.2.2.1, z.2.2.2.2.2.2.2.2.2.1, z.2.2.2.2.2.2.2.2.2.2)))) rfl
              have hP : va_P D vwCl [(m4, .inl (cI, 12, .inl (rkS z.2.2.2.2.2.2.2.1 z.2.2.2.2.2.1 so z.2.2.2.2.2.1))), (m0, .inr (8, [.ref m1, .ref m2, .int (nI (min (sm + 1) 6)), .ref m3, .int (nI ln), .int 0, .ref m4, .int lf, .int kp, .ref m5, .int (nI sp), .ref m6, .int (nI tm)])), (m1, .inl (cI, 43, .inl (zArr (z.1, z.2.1, z.2.2.1, z.2.2.2.1, z.2.2.2.2.1, z.2.2.2.2.2.1, z.2.2.2.2.2.2.1, upd g2 k2 ((rkS z.2.2.2.2.2.2.2.1 z.2.2.2.2.2.1 so z.2.2.2.2.2.1) k2), z.2.2.2.2.2.2.2.2.1, z.2.2.2.2.2.2.2.2.2.1, z.2.2.2.2.2.2.2.2.2.2)))), (m2, .inl (cI, 258, .inl (sArr (svS T sm z))))] H := hP
              have hD : va_D A [(m4, .inl (cI, 12, .inl (rkS z.2.2.2.2.2.2.2.1 z.2.2.2.2.2.1 so z.2.2.2.2.2.1))), (m0, .inr (8, [.ref m1, .ref m2, .int (nI (min (sm + 1) 6)), .ref m3, .int (nI ln), .int 0, .ref m4, .int lf, .int kp, .ref m5, .int (nI sp), .ref m6, .int (nI tm)])), (m1, .inl (cI, 43, .inl (zArr (z.1, z.2.1, z.2.2.1, z.2.2.2.1, z.2.2.2.2.1, z.2.2.2.2.2.1, z.2.2.2.2.2.2.1, upd g2 k2 ((rkS z.2.2.2.2.2.2.2.1 z.2.2.2.2.2.1 so z.2.2.2.2.2.1) k2), z.2.2.2.2.2.2.2.2.1, z.2.2.2.2.2.2.2.2.2.1, z.2.2.2.2.2.2.2.2.2.2)))), (m2, .inl (cI, 258, .inl (sArr (svS T sm z))))] := hD
              refine lv_iinc (v := nI (k2 + 1)) (lv' := [(2, .int (nI (k2 + 1))), (1, .int (nI b)), (0, .ref m0)]) hx hb dX8_sortWeights_92 hl (k := 0) rfl (by exact k_inc k2) (by decide) rfl (fun ls hl => ?_)
              refine lv_goto (tgt := 67) hx hb dX8_sortWeights_95 (by decide) ?_
              exact ih67 (k2 + 1) (upd g2 k2 ((rkS z.2.2.2.2.2.2.2.1 z.2.2.2.2.2.1 so z.2.2.2.2.2.1) k2)) (by first | assumption | omega) (fun j => by simp only [upd, hg]; (repeat' split) <;> first | rfl | omega | exact congrArg _ (by omega)) (by omega) _ _ (hP.sub [0, 1, 2, 3] rfl) (hD.sub [0, 1, 2, 3] (by decide) rfl) hS _ (lv_sub hl [0, 1, 2] rfl)
        exact J67 (z.2.2.2.2.2.1 - 0 + 1) 0 z.2.2.2.2.2.2.2.1 (by first | assumption | omega) (fun j => by rw [if_neg (by omega)]) (Nat.lt_succ_self _) _ _ (hP.sub [0, 1, 2, 3] rfl) (hD.sub [0, 1, 2, 3] (by decide) rfl) hS _ (lv_sub hl [0, 1, 2] rfl)
      · have c_20 : ¬ z.2.2.2.2.2.1 ≤ k := fun h => c_20 ((nI_leI (a := z.2.2.2.2.2.1) (b := k) (by omega) (by omega)).mpr h)
        have hr8 := rnk_lt z.2.2.2.2.2.2.2.1 k z.2.2.2.2.2.1 (by omega)
        refine lv_aload_n hx hb dX8_sortWeights_23 rfl (lv_at hl 2 rfl) ?_
        refine va_get (D := D) (ci := 8) (v := .ref m4) (C := RX8) (T := TX8) (N := 13) hx hb hts inX8_sortWeights_8 hown hK hP 1 rfl rfl 6 (by decide) (hts (.fieldLink RX8 19 "WeighingConverterModel" "sorted" "[I") (List.mem_of_getElem? (i := 3) rfl)) (fun _ h9 => h9) rfl dX8_sortWeights_24 ?_
        refine lv_aload_n hx hb dX8_sortWeights_27 rfl (lv_at hl 2 rfl) ?_
        refine lv_iload_n hx hb dX8_sortWeights_28 rfl (lv_at hl 0 rfl) ?_
        refine kv_i (As := [.int (nI k)]) (rest := [.ref m4]) (wr := [(m4, .inl (cI, 12, .inl (rkS z.2.2.2.2.2.2.2.1 z.2.2.2.2.2.1 so k))), (m2, .inl (cI, 258, .inl (sArr (svS T sm z))))]) ⟨hx, hb, hml, hown, hts⟩ (kX8_ahead l D H.size cI cC cJ cZ cQ m0 m1 m2 m3 m4 m5 m6 (min (sm + 1) 6) ln sp tm 0 lf kp z k (by first | assumption | omega) (by first | assumption | omega)) (cwV 1 hts gX8_sortWeights_X8_ahead rfl rfl rfl (by decide +kernel) ⟨Nat.le_of_ble_eq_true rfl, Nat.le_of_ble_eq_true rfl⟩) hP hD hK hS hA hN [1, 2] [0, 3] rfl rfl (by decide) (by decide) (by decide) 1 8 rfl rfl rfl rfl hl.1 rfl (Nat.le_of_ble_eq_true rfl) dX8_sortWeights_29 ⟨Nat.zero_le _, Nat.zero_le _⟩ (fun H locs hP hD hS => ?_)
        have hP : va_P D vwCl [(m4, .inl (cI, 12, .inl (rkS z.2.2.2.2.2.2.2.1 z.2.2.2.2.2.1 so k))), (m2, .inl (cI, 258, .inl (sArr (svS T sm z)))), (m0, .inr (8, [.ref m1, .ref m2, .int (nI (min (sm + 1) 6)), .ref m3, .int (nI ln), .int 0, .ref m4, .int lf, .int kp, .ref m5, .int (nI sp), .ref m6, .int (nI tm)])), (m1, .inl (cI, 43, .inl (zArr z)))] H := hP
        have hD : va_D A [(m4, .inl (cI, 12, .inl (rkS z.2.2.2.2.2.2.2.1 z.2.2.2.2.2.1 so k))), (m2, .inl (cI, 258, .inl (sArr (svS T sm z)))), (m0, .inr (8, [.ref m1, .ref m2, .int (nI (min (sm + 1) 6)), .ref m3, .int (nI ln), .int 0, .ref m4, .int lf, .int kp, .ref m5, .int (nI sp), .ref m6, .int (nI tm)])), (m1, .inl (cI, 43, .inl (zArr z)))] := hD
        refine lv_aload_n hx hb dX8_sortWeights_32 rfl (lv_at hl 2 rfl) ?_
        refine va_get (D := D) (ci := 8) (v := .ref m1) (C := RX8) (T := TX8) (N := 13) hx hb hts inX8_sortWeights_8 hown hK hP 2 rfl rfl 0 (by decide) (hts (.fieldLink RX8 7 "WeighingConverterModel" "z" "[I") (List.mem_of_getElem? (i := 2) rfl)) (fun _ h9 => h9) rfl dX8_sortWeights_33 ?_
        refine lv_bipush (v := 7) hx hb dX8_sortWeights_36 (by decide) ?_
        refine lv_iload_n hx hb dX8_sortWeights_38 rfl (lv_at hl 0 rfl) ?_
        refine lv_iadd hx hb dX8_sortWeights_39 ?_
        refine k_topi (y := nI (7 + k)) (nI_add 7 k) ?_
        refine k_iald (k := 7 + k) hx hb hK hP 3 0 rfl rfl (by omega) (by decide) dX8_sortWeights_40 ?_
        refine k_topi (y := z.2.2.2.2.2.2.2.1 k) (zArr_w (by omega)) ?_
        refine k_iast (k := rnk z.2.2.2.2.2.2.2.1 k z.2.2.2.2.2.1) hx hb hK hP hD hS 0 0 rfl rfl (by omega) (by decide) dX8_sortWeights_41 (fun H locs hP hD hS => ?_)
        have hP : va_P D vwCl [(m4, .inl (cI, 12, .inl (upd (rkS z.2.2.2.2.2.2.2.1 z.2.2.2.2.2.1 so k) (rnk z.2.2.2.2.2.2.2.1 k z.2.2.2.2.2.1) (z.2.2.2.2.2.2.2.1 k)))), (m2, .inl (cI, 258, .inl (sArr (svS T sm z)))), (m0, .inr (8, [.ref m1, .ref m2, .int (nI (min (sm + 1) 6)), .ref m3, .int (nI ln), .int 0, .ref m4, .int lf, .int kp, .ref m5, .int (nI sp), .ref m6, .int (nI tm)])), (m1, .inl (cI, 43, .inl (zArr z)))] H := hP
        have hD : va_D A [(m4, .inl (cI, 12, .inl (upd (rkS z.2.2.2.2.2.2.2.1 z.2.2.2.2.2.1 so k) (rnk z.2.2.2.2.2.2.2.1 k z.2.2.2.2.2.1) (z.2.2.2.2.2.2.2.1 k)))), (m2, .inl (cI, 258, .inl (sArr (svS T sm z)))), (m0, .inr (8, [.ref m1, .ref m2, .int (nI (min (sm + 1) 6)), .ref m3, .int (nI ln), .int 0, .ref m4, .int lf, .int kp, .ref m5, .int (nI sp), .ref m6, .int (nI tm)])), (m1, .inl (cI, 43, .inl (zArr z)))] := hD
        refine lv_iload_n hx hb dX8_sortWeights_42 rfl (lv_at hl 1 rfl) ?_
        refine lv_aload_n hx hb dX8_sortWeights_43 rfl (lv_at hl 2 rfl) ?_
        refine lv_iload_n hx hb dX8_sortWeights_44 rfl (lv_at hl 0 rfl) ?_
        refine kv_i (As := [.int (nI k)]) (rest := [.int (nI b)]) (wr := [(m4, .inl (cI, 12, .inl (upd (rkS z.2.2.2.2.2.2.2.1 z.2.2.2.2.2.1 so k) (rnk z.2.2.2.2.2.2.2.1 k z.2.2.2.2.2.1) (z.2.2.2.2.2.2.2.1 k)))), (m2, .inl (cI, 258, .inl (sArr (svS T sm z))))]) ⟨hx, hb, hml, hown, hts⟩ (kX8_ahead l D H.size cI cC cJ cZ cQ m0 m1 m2 m3 m4 m5 m6 (min (sm + 1) 6) ln sp tm 0 lf kp z k (by first | assumption | omega) (by first | assumption | omega)) (cwV 1 hts gX8_sortWeights_X8_ahead rfl rfl rfl (by decide +kernel) ⟨Nat.le_of_ble_eq_true rfl, Nat.le_of_ble_eq_true rfl⟩) hP hD hK hS hA hN [2, 3] [0, 1] rfl rfl (by decide) (by decide) (by decide) 2 8 rfl rfl rfl rfl hl.1 rfl (Nat.le_of_ble_eq_true rfl) dX8_sortWeights_45 ⟨Nat.zero_le _, Nat.zero_le _⟩ (fun H locs hP hD hS => ?_)
        have hP : va_P D vwCl [(m4, .inl (cI, 12, .inl (upd (rkS z.2.2.2.2.2.2.2.1 z.2.2.2.2.2.1 so k) (rnk z.2.2.2.2.2.2.2.1 k z.2.2.2.2.2.1) (z.2.2.2.2.2.2.2.1 k)))), (m2, .inl (cI, 258, .inl (sArr (svS T sm z)))), (m0, .inr (8, [.ref m1, .ref m2, .int (nI (min (sm + 1) 6)), .ref m3, .int (nI ln), .int 0, .ref m4, .int lf, .int kp, .ref m5, .int (nI sp), .ref m6, .int (nI tm)])), (m1, .inl (cI, 43, .inl (zArr z)))] H := hP
        have hD : va_D A [(m4, .inl (cI, 12, .inl (upd (rkS z.2.2.2.2.2.2.2.1 z.2.2.2.2.2.1 so k) (rnk z.2.2.2.2.2.2.2.1 k z.2.2.2.2.2.1) (z.2.2.2.2.2.2.2.1 k)))), (m2, .inl (cI, 258, .inl (sArr (svS T sm z)))), (m0, .inr (8, [.ref m1, .ref m2, .int (nI (min (sm + 1) 6)), .ref m3, .int (nI ln), .int 0, .ref m4, .int lf, .int kp, .ref m5, .int (nI sp), .ref m6, .int (nI tm)])), (m1, .inl (cI, 43, .inl (zArr z)))] := hD
        refine lv_iload_n hx hb dX8_sortWeights_48 rfl (lv_at hl 0 rfl) ?_
        refine lv_icmp_ne (tgt := 56) hx hb dX8_sortWeights_49 (by decide) (fun c_49 => ?_) (fun c_49 => ?_)
        · have c_49 : ¬ (rnk z.2.2.2.2.2.2.2.1 k z.2.2.2.2.2.1) = k := fun h => c_49 ((nI_eq (a := (rnk z.2.2.2.2.2.2.2.1 k z.2.2.2.2.2.1)) (b := k) (by omega) (by omega)).mpr h)
          refine lv_iconst (v := 1) hx hb dX8_sortWeights_56 (by decide) ?_
          refine lv_iadd hx hb dX8_sortWeights_57 ?_
          refine k_topi (y := nI (b + 1)) (nI_add b 1) ?_
          refine lv_istore_n (lv' := [(1, .int (nI (b + 1))), (2, .int (nI k)), (0, .ref m0)]) hx hb dX8_sortWeights_58 rfl hl (by decide) rfl (fun ls hl => ?_)
          refine lv_iinc (v := nI (k + 1)) (lv' := [(2, .int (nI (k + 1))), (1, .int (nI (b + 1))), (0, .ref m0)]) hx hb dX8_sortWeights_59 hl (k := 1) rfl (by exact k_inc k) (by decide) rfl (fun ls hl => ?_)
          refine lv_goto (tgt := 13) hx hb dX8_sortWeights_62 (by decide) ?_
          exact ih13 (k + 1) (b + 1) (by first | assumption | omega) (by rw [hb9]; simp only [misp]; first | rw [if_pos c_49] | rw [if_neg c_49]) (by omega) _ _ (hP.sub [0, 2, 3, 1] rfl) (hD.sub [0, 2, 3, 1] (by decide) rfl) hS _ (lv_sub hl [0, 1, 2] rfl)
        · have c_49 : (rnk z.2.2.2.2.2.2.2.1 k z.2.2.2.2.2.1) = k := (nI_eq (a := (rnk z.2.2.2.2.2.2.2.1 k z.2.2.2.2.2.1)) (b := k) (by omega) (by omega)).mp c_49
          refine lv_iconst (v := 0) hx hb dX8_sortWeights_52 (by decide) ?_
          refine lv_goto (tgt := 57) hx hb dX8_sortWeights_53 (by decide) ?_
          refine lv_iadd hx hb dX8_sortWeights_57 ?_
          refine k_topi (y := nI (b + 0)) (nI_add b 0) ?_
          refine lv_istore_n (lv' := [(1, .int (nI (b + 0))), (2, .int (nI k)), (0, .ref m0)]) hx hb dX8_sortWeights_58 rfl hl (by decide) rfl (fun ls hl => ?_)
          refine lv_iinc (v := nI (k + 1)) (lv' := [(2, .int (nI (k + 1))), (1, .int (nI (b + 0))), (0, .ref m0)]) hx hb dX8_sortWeights_59 hl (k := 1) rfl (by exact k_inc k) (by decide) rfl (fun ls hl => ?_)
          refine lv_goto (tgt := 13) hx hb dX8_sortWeights_62 (by decide) ?_
          exact ih13 (k + 1) (b + 0) (by first | assumption | omega) (by rw [hb9]; simp only [misp]; first | rw [if_pos c_49] | rw [if_neg c_49]) (by omega) _ _ (hP.sub [0, 2, 3, 1] rfl) (hD.sub [0, 2, 3, 1] (by decide) rfl) hS _ (lv_sub hl [0, 1, 2] rfl)
  exact J13 (z.2.2.2.2.2.1 - 0 + 1) 0 0 (by first | assumption | omega) rfl (Nat.lt_succ_self _) _ _ (hP.sub [0, 1, 2, 3] rfl) (hD.sub [0, 1, 2, 3] (by decide) rfl) hS _ (lv_sub hl [0, 1, 2] rfl)
