/-! contracts laid by program (wip/p36/gen) -/
abbrev rmkX7_afterHoldTick : Room := { frames := 0, cells := 0, slots := 0, locals := 0 }
set_option maxHeartbeats 4000000 in
set_option maxRecDepth 100000 in
theorem kX7_afterHoldTick (l : Launch) (v : Int32) (leak : Int32) : Met l yX7_afterHoldTick wsX7_afterHoldTick rmkX7_afterHoldTick (va_Pc [.int v, .int leak] (fun _ => True)) (kPi (hTick v leak)) 0 0 (fun _ => False) := by
  refine k_met0 (cc := cX7_afterHoldTick) (maxL := 2) (ret := (some .int)) (own := RX7) (by decide) rfl (Nat.le_of_ble_eq_true rfl) rfl ?_
  intro p e s m args below meth c ls H locs hx hb hr hts hown hlocks hml hS hl
  have hl : lv_has ls 2 [(0, .int v), (1, .int leak)] := hl
  refine lv_iload_n hx hb dX7_afterHoldTick_0 rfl (lv_at hl 0 rfl) ?_
  refine lv_iload_n hx hb dX7_afterHoldTick_1 rfl (lv_at hl 0 rfl) ?_
  refine lv_iload_n hx hb dX7_afterHoldTick_2 rfl (lv_at hl 1 rfl) ?_
  refine lv_imul hx hb dX7_afterHoldTick_3 ?_
  refine lv_sipush (v := 4096) hx hb dX7_afterHoldTick_4 (by decide) ?_
  refine lv_idiv hx hb dX7_afterHoldTick_7 (by decide) ?_
  refine lv_isub hx hb dX7_afterHoldTick_8 ?_
  exact kr_i0 (v := v - ((v * leak) / 4096)) hx hb hr hlocks hS rfl dX7_afterHoldTick_9

abbrev rmkX7_hasBit : Room := { frames := 0, cells := 0, slots := 0, locals := 0 }
set_option maxHeartbeats 4000000 in
set_option maxRecDepth 100000 in
theorem kX7_hasBit (l : Launch) (x : Int32) (b : Int32) : Met l yX7_hasBit wsX7_hasBit rmkX7_hasBit (va_Pc [.int x, .int b] (fun _ => True)) (kPi (hBit x b)) 0 0 (fun _ => False) := by
  refine k_met0 (cc := cX7_hasBit) (maxL := 2) (ret := (some .boolean)) (own := RX7) (by decide) rfl (Nat.le_of_ble_eq_true rfl) rfl ?_
  intro p e s m args below meth c ls H locs hx hb hr hts hown hlocks hml hS hl
  have hl : lv_has ls 2 [(0, .int x), (1, .int b)] := hl
  refine lv_iload_n hx hb dX7_hasBit_0 rfl (lv_at hl 0 rfl) ?_
  refine lv_iload_n hx hb dX7_hasBit_1 rfl (lv_at hl 1 rfl) ?_
  refine lv_ishr hx hb dX7_hasBit_2 ?_
  refine lv_iconst (v := 1) hx hb dX7_hasBit_3 (by decide) ?_
  refine lv_iand hx hb dX7_hasBit_4 ?_
  refine lv_if_eq (tgt := 12) hx hb dX7_hasBit_5 (by decide) (fun c_5 => ?_) (fun c_5 => ?_)
  · refine lv_iconst (v := 0) hx hb dX7_hasBit_12 (by decide) ?_
    exact kr_z0 (v := 0) hx hb hr hlocks rfl hS (by rw [hBit]; first | rw [if_pos c_5] | rw [if_neg c_5]) dX7_hasBit_13
  · refine lv_iconst (v := 1) hx hb dX7_hasBit_8 (by decide) ?_
    refine lv_goto (tgt := 13) hx hb dX7_hasBit_9 (by decide) ?_
    exact kr_z0 (v := 1) hx hb hr hlocks rfl hS (by rw [hBit]; first | rw [if_pos c_5] | rw [if_neg c_5]) dX7_hasBit_13

abbrev rmkX7_afterSampleTick : Room := { frames := 0, cells := 0, slots := 0, locals := 0 }
set_option maxHeartbeats 4000000 in
set_option maxRecDepth 100000 in
theorem kX7_afterSampleTick (l : Launch) (v : Int32) (inp : Int32) (rate : Int32) : Met l yX7_afterSampleTick wsX7_afterSampleTick rmkX7_afterSampleTick (va_Pc [.int v, .int inp, .int rate] (fun _ => True)) (kPi (sTick v inp rate)) 0 0 (fun _ => False) := by
  refine k_met0 (cc := cX7_afterSampleTick) (maxL := 4) (ret := (some .int)) (own := RX7) (by decide) rfl (Nat.le_of_ble_eq_true rfl) rfl ?_
  intro p e s m args below meth c ls H locs hx hb hr hts hown hlocks hml hS hl
  have hl : lv_has ls 4 [(0, .int v), (1, .int inp), (2, .int rate)] := hl
  refine lv_iload_n hx hb dX7_afterSampleTick_0 rfl (lv_at hl 1 rfl) ?_
  refine lv_iload_n hx hb dX7_afterSampleTick_1 rfl (lv_at hl 0 rfl) ?_
  refine lv_isub hx hb dX7_afterSampleTick_2 ?_
  refine lv_iload_n hx hb dX7_afterSampleTick_3 rfl (lv_at hl 2 rfl) ?_
  refine lv_imul hx hb dX7_afterSampleTick_4 ?_
  refine lv_bipush (v := 16) hx hb dX7_afterSampleTick_5 (by decide) ?_
  refine lv_idiv hx hb dX7_afterSampleTick_7 (by decide) ?_
  refine lv_istore_n (lv' := [(3, .int (((inp - v) * rate) / 16)), (0, .int v), (1, .int inp), (2, .int rate)]) hx hb dX7_afterSampleTick_8 rfl hl (by decide) rfl (fun ls hl => ?_)
  refine lv_iload_n hx hb dX7_afterSampleTick_9 rfl (lv_at hl 0 rfl) ?_
  refine lv_if_ne (tgt := 29) hx hb dX7_afterSampleTick_10 (by decide) (fun c_10 => ?_) (fun c_10 => ?_)
  · refine lv_iload_n hx hb dX7_afterSampleTick_29 rfl (lv_at hl 1 rfl) ?_
    refine lv_iload_n hx hb dX7_afterSampleTick_30 rfl (lv_at hl 0 rfl) ?_
    refine lv_iadd hx hb dX7_afterSampleTick_31 ?_
    exact kr_i0 (v := v + (((inp - v) * rate) / 16)) hx hb hr hlocks hS (by first | exact (sTick4 c_10 c_15 c_20 : _) | exact (sTick3 c_10 c_15 c_20 : _) | exact (sTick2 c_10 c_15 : _) | exact (sTick1 c_10 : _)) dX7_afterSampleTick_32
  · refine lv_iload_n hx hb dX7_afterSampleTick_13 rfl (lv_at hl 2 rfl) ?_
    refine lv_iload_n hx hb dX7_afterSampleTick_14 rfl (lv_at hl 1 rfl) ?_
    refine lv_icmp_eq (tgt := 29) hx hb dX7_afterSampleTick_15 (by decide) (fun c_15 => ?_) (fun c_15 => ?_)
    · refine lv_iload_n hx hb dX7_afterSampleTick_29 rfl (lv_at hl 1 rfl) ?_
      refine lv_iload_n hx hb dX7_afterSampleTick_30 rfl (lv_at hl 0 rfl) ?_
      refine lv_iadd hx hb dX7_afterSampleTick_31 ?_
      exact kr_i0 (v := v + (((inp - v) * rate) / 16)) hx hb hr hlocks hS (by first | exact (sTick4 c_10 c_15 c_20 : _) | exact (sTick3 c_10 c_15 c_20 : _) | exact (sTick2 c_10 c_15 : _) | exact (sTick1 c_10 : _)) dX7_afterSampleTick_32
    · refine lv_iload_n hx hb dX7_afterSampleTick_18 rfl (lv_at hl 2 rfl) ?_
      refine lv_iload_n hx hb dX7_afterSampleTick_19 rfl (lv_at hl 1 rfl) ?_
      refine lv_icmp_le (tgt := 27) hx hb dX7_afterSampleTick_20 (by decide) (fun c_20 => ?_) (fun c_20 => ?_)
      · refine lv_iconst (v := (-1)) hx hb dX7_afterSampleTick_27 (by decide) ?_
        refine lv_istore_n (lv' := [(3, .int (-1)), (0, .int v), (1, .int inp), (2, .int rate)]) hx hb dX7_afterSampleTick_28 rfl hl (by decide) rfl (fun ls hl => ?_)
        refine lv_iload_n hx hb dX7_afterSampleTick_29 rfl (lv_at hl 1 rfl) ?_
        refine lv_iload_n hx hb dX7_afterSampleTick_30 rfl (lv_at hl 0 rfl) ?_
        refine lv_iadd hx hb dX7_afterSampleTick_31 ?_
        exact kr_i0 (v := v + (-1)) hx hb hr hlocks hS (by first | exact (sTick4 c_10 c_15 c_20 : _) | exact (sTick3 c_10 c_15 c_20 : _) | exact (sTick2 c_10 c_15 : _) | exact (sTick1 c_10 : _)) dX7_afterSampleTick_32
      · refine lv_iconst (v := 1) hx hb dX7_afterSampleTick_23 (by decide) ?_
        refine lv_goto (tgt := 28) hx hb dX7_afterSampleTick_24 (by decide) ?_
        refine lv_istore_n (lv' := [(3, .int 1), (0, .int v), (1, .int inp), (2, .int rate)]) hx hb dX7_afterSampleTick_28 rfl hl (by decide) rfl (fun ls hl => ?_)
        refine lv_iload_n hx hb dX7_afterSampleTick_29 rfl (lv_at hl 1 rfl) ?_
        refine lv_iload_n hx hb dX7_afterSampleTick_30 rfl (lv_at hl 0 rfl) ?_
        refine lv_iadd hx hb dX7_afterSampleTick_31 ?_
        exact kr_i0 (v := v + 1) hx hb hr hlocks hS (by first | exact (sTick4 c_10 c_15 c_20 : _) | exact (sTick3 c_10 c_15 c_20 : _) | exact (sTick2 c_10 c_15 : _) | exact (sTick1 c_10 : _)) dX7_afterSampleTick_32

abbrev rmkX5_withDigit : Room := { frames := 0, cells := 0, slots := 0, locals := 0 }
set_option maxHeartbeats 4000000 in
set_option maxRecDepth 100000 in
theorem kX5_withDigit (l : Launch) (a : Int32) (b : Int32) : Met l yX5_withDigit wsX5_withDigit rmkX5_withDigit (va_Pc [.int a, .int b] (fun _ => True)) (kPi (wDig a b)) 0 0 (fun _ => False) := by
  refine k_met0 (cc := cX5_withDigit) (maxL := 2) (ret := (some .int)) (own := RX5) (by decide) rfl (Nat.le_of_ble_eq_true rfl) rfl ?_
  intro p e s m args below meth c ls H locs hx hb hr hts hown hlocks hml hS hl
  have hl : lv_has ls 2 [(0, .int a), (1, .int b)] := hl
  refine lv_bipush (v := 10) hx hb dX5_withDigit_0 (by decide) ?_
  refine lv_iload_n hx hb dX5_withDigit_2 rfl (lv_at hl 0 rfl) ?_
  refine lv_imul hx hb dX5_withDigit_3 ?_
  refine lv_iload_n hx hb dX5_withDigit_4 rfl (lv_at hl 1 rfl) ?_
  refine lv_bipush (v := 48) hx hb dX5_withDigit_5 (by decide) ?_
  refine lv_isub hx hb dX5_withDigit_7 ?_
  refine lv_iadd hx hb dX5_withDigit_8 ?_
  exact kr_i0 (v := (10 * a) + (b - 48)) hx hb hr hlocks hS rfl dX5_withDigit_9

abbrev rmkX7_mixed : Room := { frames := 0, cells := 0, slots := 0, locals := 0 }
set_option maxHeartbeats 4000000 in
set_option maxRecDepth 100000 in
theorem kX7_mixed (l : Launch) (h : Int64) (v : Int32) : Met l yX7_mixed wsX7_mixed rmkX7_mixed (va_Pc [.long h, .int v] (fun _ => True)) (kPl (mixD h v)) 0 0 (fun _ => False) := by
  refine k_met0 (cc := cX7_mixed) (maxL := 3) (ret := (some .long)) (own := RX7) (by decide) rfl (Nat.le_of_ble_eq_true rfl) rfl ?_
  intro p e s m args below meth c ls H locs hx hb hr hts hown hlocks hml hS hl
  have hl : lv_has ls 3 [(0, .long h), (2, .int v)] := hl
  refine lv_ldc2 hx hb hown (hts (.constantLong RX7 251 (31)) (List.mem_of_getElem? (i := 1) rfl)) dX7_mixed_0 ?_
  refine lv_lload_n hx hb dX7_mixed_3 rfl (lv_at hl 0 rfl) ?_
  refine lv_lmul hx hb dX7_mixed_4 ?_
  refine lv_iload_n hx hb dX7_mixed_5 rfl (lv_at hl 1 rfl) ?_
  refine lv_i2l hx hb dX7_mixed_6 rfl ?_
  refine lv_ladd hx hb dX7_mixed_7 ?_
  exact kr_l0 (v := (31 * h) + ((v : Int32).toInt64)) hx hb hr hlocks hS rfl dX7_mixed_8

theorem inX6_sum_6 : ∀ w ∈ wsX60, w ∈ wsX6_sum := fun _ h => List.mem_cons_of_mem _ (List.mem_append_right _ h)
abbrev rmkX6_sum : Room := { frames := 0, cells := 0, slots := 0, locals := 0 }
set_option maxHeartbeats 4000000 in
set_option maxRecDepth 100000 in
theorem kX6_sum (l : Launch) (D : va_G) (sz : Nat) (cI : ClassId) (cC : ClassId) (cJ : ClassId) (cZ : ClassId) (cQ : ClassId) (w0 : Nat) (w1 : Nat) (wc : Nat) (f : Nat → Int32) (hwc : wc ≤ 12) : Met l yX6_sum wsX6_sum rmkX6_sum (va_Pc [.ref w0] (kPre D sz [(w0, .inr (6, [.ref w1, .int (nI wc)])), (w1, .inl (cI, 12, .inl f))] (kT cI cC cJ cZ cQ))) (kQi D (sumW f wc) [(w0, .inr (6, [.ref w1, .int (nI wc)])), (w1, .inl (cI, 12, .inl f))] (va_A [(w0, .inr (6, [.ref w1, .int (nI wc)])), (w1, .inl (cI, 12, .inl f))] sz)) 0 0 (va_A [(w0, .inr (6, [.ref w1, .int (nI wc)])), (w1, .inl (cI, 12, .inl f))] sz) := by
  refine k_met (Qf := kQi D (sumW f wc) [(w0, .inr (6, [.ref w1, .int (nI wc)])), (w1, .inl (cI, 12, .inl f))]) (cc := cX6_sum) (maxL := 3) (ret := (some .int)) (own := RX6) (by decide) rfl (Nat.le_of_ble_eq_true rfl) rfl ?_
  intro p e s m args below meth c ls A H locs hx hb hr hts hown hlocks hml hin hsz hP hK hD hA hS hN hl
  have hl : lv_has ls 3 [(0, .ref w0)] := hl
  refine lv_iconst (v := 0) hx hb dX6_sum_0 (by decide) ?_
  refine lv_istore_n (lv' := [(1, .int 0), (0, .ref w0)]) hx hb dX6_sum_1 rfl hl (by decide) rfl (fun ls hl => ?_)
  refine lv_iconst (v := 0) hx hb dX6_sum_2 (by decide) ?_
  refine lv_istore_n (lv' := [(2, .int 0), (1, .int 0), (0, .ref w0)]) hx hb dX6_sum_3 rfl hl (by decide) rfl (fun ls hl => ?_)
  have J4 : ∀ (fuel : Nat) (k : Nat) (hk : k ≤ wc) (hm : wc - k < fuel) (H : Heap) (locs : List Loc) (hP : va_P D vwCl [(w0, .inr (6, [.ref w1, .int (nI wc)])), (w1, .inl (cI, 12, .inl f))] H) (hD : va_D A [(w0, .inr (6, [.ref w1, .int (nI wc)])), (w1, .inl (cI, 12, .inl f))]) (hS : va_S A s.heap H locs) (ls : Array Slot) (hl : lv_has ls 3 [(2, .int (nI k)), (1, .int (sumW f k)), (0, .ref w0)]), W p l e rmkX6_sum s m args below meth c H locs 0 0 (MQ below (kQi D (sumW f wc) [(w0, .inr (6, [.ref w1, .int (nI wc)])), (w1, .inl (cI, 12, .inl f))] A) args s 0 0 A) (F0 m 4 ls []) := by
    intro fuel
    induction fuel with
    | zero => intro k hk hm; exact absurd hm (Nat.not_lt_zero _)
    | succ fuel ih4 =>
      intro k hk hm H locs hP hD hS ls hl
      refine lv_iload_n hx hb dX6_sum_4 rfl (lv_at hl 0 rfl) ?_
      refine lv_aload_n hx hb dX6_sum_5 rfl (lv_at hl 2 rfl) ?_
      refine va_get (D := D) (ci := 6) (v := .int (nI wc)) (C := RX6) (T := TX6) (N := 2) hx hb hts inX6_sum_6 hown hK hP 0 rfl rfl 1 (by decide) (hts (.fieldLink RX6 18 "WeighingConverter$Weights" "count" "I") (List.mem_of_getElem? (i := 1) rfl)) (fun _ h9 => h9) rfl dX6_sum_6 ?_
      refine lv_icmp_ge (tgt := 27) hx hb dX6_sum_9 (by decide) (fun c_9 => ?_) (fun c_9 => ?_)
      · have c_9 : wc ≤ k := (nI_leI (a := wc) (b := k) (by omega) (by omega)).mp c_9
        refine lv_iload_n hx hb dX6_sum_27 rfl (lv_at hl 1 rfl) ?_
        have hP9 := hP.sub (ws' := [(w0, .inr (6, [.ref w1, .int (nI wc)])), (w1, .inl (cI, 12, .inl f))]) [0, 1] rfl
        have hD9 := hD.sub (ws' := [(w0, .inr (6, [.ref w1, .int (nI wc)])), (w1, .inl (cI, 12, .inl f))]) [0, 1] (by decide) rfl
        exact kr_i (v := sumW f k) hx hb hr hlocks hP9 hD9 hS (by rw [show k = wc from by omega]) dX6_sum_28
      · have c_9 : ¬ wc ≤ k := fun h => c_9 ((nI_leI (a := wc) (b := k) (by omega) (by omega)).mpr h)
        refine lv_iload_n hx hb dX6_sum_12 rfl (lv_at hl 1 rfl) ?_
        refine lv_aload_n hx hb dX6_sum_13 rfl (lv_at hl 2 rfl) ?_
        refine va_get (D := D) (ci := 6) (v := .ref w1) (C := RX6) (T := TX6) (N := 2) hx hb hts inX6_sum_6 hown hK hP 0 rfl rfl 0 (by decide) (hts (.fieldLink RX6 9 "WeighingConverter$Weights" "sizes" "[I") (List.mem_of_getElem? (i := 2) rfl)) (fun _ h9 => h9) rfl dX6_sum_14 ?_
        refine lv_iload_n hx hb dX6_sum_17 rfl (lv_at hl 0 rfl) ?_
        refine k_iald (k := k) hx hb hK hP 1 0 rfl rfl (by omega) (by decide) dX6_sum_18 ?_
        refine lv_iadd hx hb dX6_sum_19 ?_
        refine lv_istore_n (lv' := [(1, .int ((sumW f k) + (f k))), (2, .int (nI k)), (0, .ref w0)]) hx hb dX6_sum_20 rfl hl (by decide) rfl (fun ls hl => ?_)
        refine lv_iinc (v := nI (k + 1)) (lv' := [(2, .int (nI (k + 1))), (1, .int ((sumW f k) + (f k))), (0, .ref w0)]) hx hb dX6_sum_21 hl (k := 1) rfl (by exact k_inc k) (by decide) rfl (fun ls hl => ?_)
        refine lv_goto (tgt := 4) hx hb dX6_sum_24 (by decide) ?_
        exact ih4 (k + 1) (by first | assumption | omega) (by omega) _ _ (hP.sub [0, 1] rfl) (hD.sub [0, 1] (by decide) rfl) hS _ (lv_sub hl [0, 1, 2] rfl)
  exact J4 (wc - 0 + 1) 0 (by first | assumption | omega) (Nat.lt_succ_self _) _ _ (hP.sub [0, 1] rfl) (hD.sub [0, 1] (by decide) rfl) hS _ (lv_sub hl [0, 1, 2] rfl)

theorem inX6_sortedNumber_6 : ∀ w ∈ wsX60, w ∈ wsX6_sortedNumber := fun _ h => List.mem_cons_of_mem _ (List.mem_append_right _ h)
abbrev rmkX6_sortedNumber : Room := { frames := 0, cells := 0, slots := 0, locals := 0 }
set_option maxHeartbeats 4000000 in
set_option maxRecDepth 100000 in
theorem kX6_sortedNumber (l : Launch) (D : va_G) (sz : Nat) (cI : ClassId) (cC : ClassId) (cJ : ClassId) (cZ : ClassId) (cQ : ClassId) (w0 : Nat) (w1 : Nat) (wc : Nat) (f : Nat → Int32) (i : Nat) (hwc : wc ≤ 12) (hi : i < wc) : Met l yX6_sortedNumber wsX6_sortedNumber rmkX6_sortedNumber (va_Pc [.ref w0, .int (nI i)] (kPre D sz [(w0, .inr (6, [.ref w1, .int (nI wc)])), (w1, .inl (cI, 12, .inl f))] (kT cI cC cJ cZ cQ))) (kQi D (nI (rnk f i wc)) [(w0, .inr (6, [.ref w1, .int (nI wc)])), (w1, .inl (cI, 12, .inl f))] (va_A [(w0, .inr (6, [.ref w1, .int (nI wc)])), (w1, .inl (cI, 12, .inl f))] sz)) 0 0 (va_A [(w0, .inr (6, [.ref w1, .int (nI wc)])), (w1, .inl (cI, 12, .inl f))] sz) := by
  refine k_met (Qf := kQi D (nI (rnk f i wc)) [(w0, .inr (6, [.ref w1, .int (nI wc)])), (w1, .inl (cI, 12, .inl f))]) (cc := cX6_sortedNumber) (maxL := 4) (ret := (some .int)) (own := RX6) (by decide) rfl (Nat.le_of_ble_eq_true rfl) rfl ?_
  intro p e s m args below meth c ls A H locs hx hb hr hts hown hlocks hml hin hsz hP hK hD hA hS hN hl
  have hl : lv_has ls 4 [(0, .ref w0), (1, .int (nI i))] := hl
  refine lv_iconst (v := 0) hx hb dX6_sortedNumber_0 (by decide) ?_
  refine lv_istore_n (lv' := [(2, .int 0), (0, .ref w0), (1, .int (nI i))]) hx hb dX6_sortedNumber_1 rfl hl (by decide) rfl (fun ls hl => ?_)
  refine lv_iconst (v := 0) hx hb dX6_sortedNumber_2 (by decide) ?_
  refine lv_istore_n (lv' := [(3, .int 0), (2, .int 0), (0, .ref w0), (1, .int (nI i))]) hx hb dX6_sortedNumber_3 rfl hl (by decide) rfl (fun ls hl => ?_)
  have J4 : ∀ (fuel : Nat) (k : Nat) (b : Nat) (hk : k ≤ wc) (hb9 : b = rnk f i k) (hm : wc - k < fuel) (H : Heap) (locs : List Loc) (hP : va_P D vwCl [(w0, .inr (6, [.ref w1, .int (nI wc)])), (w1, .inl (cI, 12, .inl f))] H) (hD : va_D A [(w0, .inr (6, [.ref w1, .int (nI wc)])), (w1, .inl (cI, 12, .inl f))]) (hS : va_S A s.heap H locs) (ls : Array Slot) (hl : lv_has ls 4 [(3, .int (nI k)), (2, .int (nI b)), (0, .ref w0), (1, .int (nI i))]), W p l e rmkX6_sortedNumber s m args below meth c H locs 0 0 (MQ below (kQi D (nI (rnk f i wc)) [(w0, .inr (6, [.ref w1, .int (nI wc)])), (w1, .inl (cI, 12, .inl f))] A) args s 0 0 A) (F0 m 4 ls []) := by
    intro fuel
    induction fuel with
    | zero => intro k b hk hb9 hm; exact absurd hm (Nat.not_lt_zero _)
    | succ fuel ih4 =>
      intro k b hk hb9 hm H locs hP hD hS ls hl
      refine lv_iload_n hx hb dX6_sortedNumber_4 rfl (lv_at hl 0 rfl) ?_
      refine lv_aload_n hx hb dX6_sortedNumber_5 rfl (lv_at hl 2 rfl) ?_
      refine va_get (D := D) (ci := 6) (v := .int (nI wc)) (C := RX6) (T := TX6) (N := 2) hx hb hts inX6_sortedNumber_6 hown hK hP 0 rfl rfl 1 (by decide) (hts (.fieldLink RX6 18 "WeighingConverter$Weights" "count" "I") (List.mem_of_getElem? (i := 1) rfl)) (fun _ h9 => h9) rfl dX6_sortedNumber_6 ?_
      refine lv_icmp_ge (tgt := 56) hx hb dX6_sortedNumber_9 (by decide) (fun c_9 => ?_) (fun c_9 => ?_)
      · have c_9 : wc ≤ k := (nI_leI (a := wc) (b := k) (by omega) (by omega)).mp c_9
        refine lv_iload_n hx hb dX6_sortedNumber_56 rfl (lv_at hl 1 rfl) ?_
        have hP9 := hP.sub (ws' := [(w0, .inr (6, [.ref w1, .int (nI wc)])), (w1, .inl (cI, 12, .inl f))]) [0, 1] rfl
        have hD9 := hD.sub (ws' := [(w0, .inr (6, [.ref w1, .int (nI wc)])), (w1, .inl (cI, 12, .inl f))]) [0, 1] (by decide) rfl
        exact kr_i (v := nI b) hx hb hr hlocks hP9 hD9 hS (by rw [hb9, show k = wc from by omega]) dX6_sortedNumber_57
      · have c_9 : ¬ wc ≤ k := fun h => c_9 ((nI_leI (a := wc) (b := k) (by omega) (by omega)).mpr h)
        refine lv_aload_n hx hb dX6_sortedNumber_12 rfl (lv_at hl 2 rfl) ?_
        refine va_get (D := D) (ci := 6) (v := .ref w1) (C := RX6) (T := TX6) (N := 2) hx hb hts inX6_sortedNumber_6 hown hK hP 0 rfl rfl 0 (by decide) (hts (.fieldLink RX6 9 "WeighingConverter$Weights" "sizes" "[I") (List.mem_of_getElem? (i := 2) rfl)) (fun _ h9 => h9) rfl dX6_sortedNumber_13 ?_
        refine lv_iload_n hx hb dX6_sortedNumber_16 rfl (lv_at hl 0 rfl) ?_
        refine k_iald (k := k) hx hb hK hP 1 0 rfl rfl (by omega) (by decide) dX6_sortedNumber_17 ?_
        refine lv_aload_n hx hb dX6_sortedNumber_18 rfl (lv_at hl 2 rfl) ?_
        refine va_get (D := D) (ci := 6) (v := .ref w1) (C := RX6) (T := TX6) (N := 2) hx hb hts inX6_sortedNumber_6 hown hK hP 0 rfl rfl 0 (by decide) (hts (.fieldLink RX6 9 "WeighingConverter$Weights" "sizes" "[I") (List.mem_of_getElem? (i := 2) rfl)) (fun _ h9 => h9) rfl dX6_sortedNumber_19 ?_
        refine lv_iload_n hx hb dX6_sortedNumber_22 rfl (lv_at hl 3 rfl) ?_
        refine k_iald (k := i) hx hb hK hP 1 0 rfl rfl (by omega) (by decide) dX6_sortedNumber_23 ?_
        refine lv_icmp_gt (tgt := 47) hx hb dX6_sortedNumber_24 (by decide) (fun c_24 => ?_) (fun c_24 => ?_)
        · refine lv_iinc (v := nI (b + 1)) (lv' := [(2, .int (nI (b + 1))), (3, .int (nI k)), (0, .ref w0), (1, .int (nI i))]) hx hb dX6_sortedNumber_47 hl (k := 1) rfl (by exact k_inc b) (by decide) rfl (fun ls hl => ?_)
          refine lv_iinc (v := nI (k + 1)) (lv' := [(3, .int (nI (k + 1))), (2, .int (nI (b + 1))), (0, .ref w0), (1, .int (nI i))]) hx hb dX6_sortedNumber_50 hl (k := 1) rfl (by exact k_inc k) (by decide) rfl (fun ls hl => ?_)
          refine lv_goto (tgt := 4) hx hb dX6_sortedNumber_53 (by decide) ?_
          exact ih4 (k + 1) (b + 1) (by first | assumption | omega) (by rw [hb9]; simp only [rnk, i_lt, i_le, i_eq] at c_24 ⊢; split <;> omega) (by omega) _ _ (hP.sub [0, 1] rfl) (hD.sub [0, 1] (by decide) rfl) hS _ (lv_sub hl [0, 1, 2, 3] rfl)
        · refine lv_aload_n hx hb dX6_sortedNumber_27 rfl (lv_at hl 2 rfl) ?_
          refine va_get (D := D) (ci := 6) (v := .ref w1) (C := RX6) (T := TX6) (N := 2) hx hb hts inX6_sortedNumber_6 hown hK hP 0 rfl rfl 0 (by decide) (hts (.fieldLink RX6 9 "WeighingConverter$Weights" "sizes" "[I") (List.mem_of_getElem? (i := 2) rfl)) (fun _ h9 => h9) rfl dX6_sortedNumber_28 ?_
          refine lv_iload_n hx hb dX6_sortedNumber_31 rfl (lv_at hl 0 rfl) ?_
          refine k_iald (k := k) hx hb hK hP 1 0 rfl rfl (by omega) (by decide) dX6_sortedNumber_32 ?_
          refine lv_aload_n hx hb dX6_sortedNumber_33 rfl (lv_at hl 2 rfl) ?_
          refine va_get (D := D) (ci := 6) (v := .ref w1) (C := RX6) (T := TX6) (N := 2) hx hb hts inX6_sortedNumber_6 hown hK hP 0 rfl rfl 0 (by decide) (hts (.fieldLink RX6 9 "WeighingConverter$Weights" "sizes" "[I") (List.mem_of_getElem? (i := 2) rfl)) (fun _ h9 => h9) rfl dX6_sortedNumber_34 ?_
          refine lv_iload_n hx hb dX6_sortedNumber_37 rfl (lv_at hl 3 rfl) ?_
          refine k_iald (k := i) hx hb hK hP 1 0 rfl rfl (by omega) (by decide) dX6_sortedNumber_38 ?_
          refine lv_icmp_ne (tgt := 50) hx hb dX6_sortedNumber_39 (by decide) (fun c_39 => ?_) (fun c_39 => ?_)
          · refine lv_iinc (v := nI (k + 1)) (lv' := [(3, .int (nI (k + 1))), (2, .int (nI b)), (0, .ref w0), (1, .int (nI i))]) hx hb dX6_sortedNumber_50 hl (k := 0) rfl (by exact k_inc k) (by decide) rfl (fun ls hl => ?_)
            refine lv_goto (tgt := 4) hx hb dX6_sortedNumber_53 (by decide) ?_
            exact ih4 (k + 1) b (by first | assumption | omega) (by rw [hb9]; simp only [rnk, i_lt, i_le, i_eq] at c_24 c_39 ⊢; split <;> omega) (by omega) _ _ (hP.sub [0, 1] rfl) (hD.sub [0, 1] (by decide) rfl) hS _ (lv_sub hl [0, 1, 2, 3] rfl)
          · refine lv_iload_n hx hb dX6_sortedNumber_42 rfl (lv_at hl 0 rfl) ?_
            refine lv_iload_n hx hb dX6_sortedNumber_43 rfl (lv_at hl 3 rfl) ?_
            refine lv_icmp_ge (tgt := 50) hx hb dX6_sortedNumber_44 (by decide) (fun c_44 => ?_) (fun c_44 => ?_)
            · have c_44 : i ≤ k := (nI_leI (a := i) (b := k) (by omega) (by omega)).mp c_44
              refine lv_iinc (v := nI (k + 1)) (lv' := [(3, .int (nI (k + 1))), (2, .int (nI b)), (0, .ref w0), (1, .int (nI i))]) hx hb dX6_sortedNumber_50 hl (k := 0) rfl (by exact k_inc k) (by decide) rfl (fun ls hl => ?_)
              refine lv_goto (tgt := 4) hx hb dX6_sortedNumber_53 (by decide) ?_
              exact ih4 (k + 1) b (by first | assumption | omega) (by rw [hb9]; simp only [rnk, i_lt, i_le, i_eq] at c_24 c_39 ⊢; split <;> omega) (by omega) _ _ (hP.sub [0, 1] rfl) (hD.sub [0, 1] (by decide) rfl) hS _ (lv_sub hl [0, 1, 2, 3] rfl)
            · have c_44 : ¬ i ≤ k := fun h => c_44 ((nI_leI (a := i) (b := k) (by omega) (by omega)).mpr h)
              refine lv_iinc (v := nI (b + 1)) (lv' := [(2, .int (nI (b + 1))), (3, .int (nI k)), (0, .ref w0), (1, .int (nI i))]) hx hb dX6_sortedNumber_47 hl (k := 1) rfl (by exact k_inc b) (by decide) rfl (fun ls hl => ?_)
              refine lv_iinc (v := nI (k + 1)) (lv' := [(3, .int (nI (k + 1))), (2, .int (nI (b + 1))), (0, .ref w0), (1, .int (nI i))]) hx hb dX6_sortedNumber_50 hl (k := 1) rfl (by exact k_inc k) (by decide) rfl (fun ls hl => ?_)
              refine lv_goto (tgt := 4) hx hb dX6_sortedNumber_53 (by decide) ?_
              exact ih4 (k + 1) (b + 1) (by first | assumption | omega) (by rw [hb9]; simp only [rnk, i_lt, i_le, i_eq] at c_24 c_39 ⊢; split <;> omega) (by omega) _ _ (hP.sub [0, 1] rfl) (hD.sub [0, 1] (by decide) rfl) hS _ (lv_sub hl [0, 1, 2, 3] rfl)
  exact J4 (wc - 0 + 1) 0 0 (by first | assumption | omega) rfl (Nat.lt_succ_self _) _ _ (hP.sub [0, 1] rfl) (hD.sub [0, 1] (by decide) rfl) hS _ (lv_sub hl [0, 1, 2, 3] rfl)

theorem inX6_countMisplaced_6 : ∀ w ∈ wsX60, w ∈ wsX6_countMisplaced := fun _ h => List.mem_cons_of_mem _ (List.mem_append_right _ h)
abbrev rmkX6_countMisplaced : Room := { frames := 1, cells := 0, slots := 0, locals := 23 }
set_option maxHeartbeats 4000000 in
set_option maxRecDepth 100000 in
theorem kX6_countMisplaced (l : Launch) (D : va_G) (sz : Nat) (cI : ClassId) (cC : ClassId) (cJ : ClassId) (cZ : ClassId) (cQ : ClassId) (w0 : Nat) (w1 : Nat) (wc : Nat) (f : Nat → Int32) (hwc : wc ≤ 12) : Met l yX6_countMisplaced wsX6_countMisplaced rmkX6_countMisplaced (va_Pc [.ref w0] (kPre D sz [(w0, .inr (6, [.ref w1, .int (nI wc)])), (w1, .inl (cI, 12, .inl f))] (kT cI cC cJ cZ cQ))) (kQi D (nI (misp f wc wc)) [(w0, .inr (6, [.ref w1, .int (nI wc)])), (w1, .inl (cI, 12, .inl f))] (va_A [(w0, .inr (6, [.ref w1, .int (nI wc)])), (w1, .inl (cI, 12, .inl f))] sz)) 0 0 (va_A [(w0, .inr (6, [.ref w1, .int (nI wc)])), (w1, .inl (cI, 12, .inl f))] sz) := by
  refine k_met (Qf := kQi D (nI (misp f wc wc)) [(w0, .inr (6, [.ref w1, .int (nI wc)])), (w1, .inl (cI, 12, .inl f))]) (cc := cX6_countMisplaced) (maxL := 3) (ret := (some .int)) (own := RX6) (by decide) rfl (Nat.le_of_ble_eq_true rfl) rfl ?_
  intro p e s m args below meth c ls A H locs hx hb hr hts hown hlocks hml hin hsz hP hK hD hA hS hN hl
  have hl : lv_has ls 3 [(0, .ref w0)] := hl
  refine lv_iconst (v := 0) hx hb dX6_countMisplaced_0 (by decide) ?_
  refine lv_istore_n (lv' := [(1, .int 0), (0, .ref w0)]) hx hb dX6_countMisplaced_1 rfl hl (by decide) rfl (fun ls hl => ?_)
  refine lv_iconst (v := 0) hx hb dX6_countMisplaced_2 (by decide) ?_
  refine lv_istore_n (lv' := [(2, .int 0), (1, .int 0), (0, .ref w0)]) hx hb dX6_countMisplaced_3 rfl hl (by decide) rfl (fun ls hl => ?_)
  have J4 : ∀ (fuel : Nat) (k : Nat) (b : Nat) (hk : k ≤ wc) (hb9 : b = misp f wc k) (hm : wc - k < fuel) (H : Heap) (locs : List Loc) (hP : va_P D vwCl [(w0, .inr (6, [.ref w1, .int (nI wc)])), (w1, .inl (cI, 12, .inl f))] H) (hD : va_D A [(w0, .inr (6, [.ref w1, .int (nI wc)])), (w1, .inl (cI, 12, .inl f))]) (hS : va_S A s.heap H locs) (ls : Array Slot) (hl : lv_has ls 3 [(2, .int (nI k)), (1, .int (nI b)), (0, .ref w0)]), W p l e rmkX6_countMisplaced s m args below meth c H locs 0 0 (MQ below (kQi D (nI (misp f wc wc)) [(w0, .inr (6, [.ref w1, .int (nI wc)])), (w1, .inl (cI, 12, .inl f))] A) args s 0 0 A) (F0 m 4 ls []) := by
    intro fuel
    induction fuel with
    | zero => intro k b hk hb9 hm; exact absurd hm (Nat.not_lt_zero _)
    | succ fuel ih4 =>
      intro k b hk hb9 hm H locs hP hD hS ls hl
      refine lv_iload_n hx hb dX6_countMisplaced_4 rfl (lv_at hl 0 rfl) ?_
      refine lv_aload_n hx hb dX6_countMisplaced_5 rfl (lv_at hl 2 rfl) ?_
      refine va_get (D := D) (ci := 6) (v := .int (nI wc)) (C := RX6) (T := TX6) (N := 2) hx hb hts inX6_countMisplaced_6 hown hK hP 0 rfl rfl 1 (by decide) (hts (.fieldLink RX6 18 "WeighingConverter$Weights" "count" "I") (List.mem_of_getElem? (i := 1) rfl)) (fun _ h9 => h9) rfl dX6_countMisplaced_6 ?_
      refine lv_icmp_ge (tgt := 30) hx hb dX6_countMisplaced_9 (by decide) (fun c_9 => ?_) (fun c_9 => ?_)
      · have c_9 : wc ≤ k := (nI_leI (a := wc) (b := k) (by omega) (by omega)).mp c_9
        refine lv_iload_n hx hb dX6_countMisplaced_30 rfl (lv_at hl 1 rfl) ?_
        have hP9 := hP.sub (ws' := [(w0, .inr (6, [.ref w1, .int (nI wc)])), (w1, .inl (cI, 12, .inl f))]) [0, 1] rfl
        have hD9 := hD.sub (ws' := [(w0, .inr (6, [.ref w1, .int (nI wc)])), (w1, .inl (cI, 12, .inl f))]) [0, 1] (by decide) rfl
        exact kr_i (v := nI b) hx hb hr hlocks hP9 hD9 hS (by rw [hb9, show k = wc from by omega]) dX6_countMisplaced_31
      · have c_9 : ¬ wc ≤ k := fun h => c_9 ((nI_leI (a := wc) (b := k) (by omega) (by omega)).mpr h)
        refine lv_aload_n hx hb dX6_countMisplaced_12 rfl (lv_at hl 2 rfl) ?_
        refine lv_iload_n hx hb dX6_countMisplaced_13 rfl (lv_at hl 0 rfl) ?_
        refine kv_i (As := [.int (nI k)]) (rest := []) (wr := []) ⟨hx, hb, hml, hown, hts⟩ (kX6_sortedNumber l D H.size cI cC cJ cZ cQ w0 w1 wc f k (by first | assumption | omega) (by first | assumption | omega)) (cwV 1 hts gX6_countMisplaced_X6_sortedNumber rfl rfl rfl (by decide +kernel) ⟨Nat.le_of_ble_eq_true rfl, Nat.le_of_ble_eq_true rfl⟩) hP hD hK hS hA hN [0, 1] [] rfl rfl (by decide) (by decide) (by decide) 0 6 rfl rfl rfl rfl hl.1 rfl (Nat.le_of_ble_eq_true rfl) dX6_countMisplaced_14 ⟨Nat.zero_le _, Nat.zero_le _⟩ (fun H locs hP hD hS => ?_)
        have hP : va_P D vwCl [(w0, .inr (6, [.ref w1, .int (nI wc)])), (w1, .inl (cI, 12, .inl f))] H := hP
        have hD : va_D A [(w0, .inr (6, [.ref w1, .int (nI wc)])), (w1, .inl (cI, 12, .inl f))] := hD
        refine lv_iload_n hx hb dX6_countMisplaced_17 rfl (lv_at hl 0 rfl) ?_
        have hr9 := rnk_le f k wc
        refine lv_icmp_eq (tgt := 24) hx hb dX6_countMisplaced_18 (by decide) (fun c_18 => ?_) (fun c_18 => ?_)
        · have c_18 : (rnk f k wc) = k := (nI_eq (a := (rnk f k wc)) (b := k) (by omega) (by omega)).mp c_18
          refine lv_iinc (v := nI (k + 1)) (lv' := [(2, .int (nI (k + 1))), (1, .int (nI b)), (0, .ref w0)]) hx hb dX6_countMisplaced_24 hl (k := 0) rfl (by exact k_inc k) (by decide) rfl (fun ls hl => ?_)
          refine lv_goto (tgt := 4) hx hb dX6_countMisplaced_27 (by decide) ?_
          exact ih4 (k + 1) b (by first | assumption | omega) (by rw [hb9]; simp only [misp]; split <;> omega) (by omega) _ _ (hP.sub [0, 1] rfl) (hD.sub [0, 1] (by decide) rfl) hS _ (lv_sub hl [0, 1, 2] rfl)
        · have c_18 : ¬ (rnk f k wc) = k := fun h => c_18 ((nI_eq (a := (rnk f k wc)) (b := k) (by omega) (by omega)).mpr h)
          refine lv_iinc (v := nI (b + 1)) (lv' := [(1, .int (nI (b + 1))), (2, .int (nI k)), (0, .ref w0)]) hx hb dX6_countMisplaced_21 hl (k := 1) rfl (by exact k_inc b) (by decide) rfl (fun ls hl => ?_)
          refine lv_iinc (v := nI (k + 1)) (lv' := [(2, .int (nI (k + 1))), (1, .int (nI (b + 1))), (0, .ref w0)]) hx hb dX6_countMisplaced_24 hl (k := 1) rfl (by exact k_inc k) (by decide) rfl (fun ls hl => ?_)
          refine lv_goto (tgt := 4) hx hb dX6_countMisplaced_27 (by decide) ?_
          exact ih4 (k + 1) (b + 1) (by first | assumption | omega) (by rw [hb9]; simp only [misp]; split <;> omega) (by omega) _ _ (hP.sub [0, 1] rfl) (hD.sub [0, 1] (by decide) rfl) hS _ (lv_sub hl [0, 1, 2] rfl)
  exact J4 (wc - 0 + 1) 0 0 (by first | assumption | omega) rfl (Nat.lt_succ_self _) _ _ (hP.sub [0, 1] rfl) (hD.sub [0, 1] (by decide) rfl) hS _ (lv_sub hl [0, 1, 2] rfl)

theorem inX6_putIn_6 : ∀ w ∈ wsX60, w ∈ wsX6_putIn := fun _ h => List.mem_cons_of_mem _ (List.mem_append_right _ h)
abbrev rmkX6_putIn : Room := { frames := 0, cells := 0, slots := 0, locals := 0 }
set_option maxHeartbeats 4000000 in
set_option maxRecDepth 100000 in
theorem kX6_putIn (l : Launch) (D : va_G) (sz : Nat) (cI : ClassId) (cC : ClassId) (cJ : ClassId) (cZ : ClassId) (cQ : ClassId) (w0 : Nat) (w1 : Nat) (wc : Nat) (f : Nat → Int32) (i : Nat) (x : Int32) (hwc : wc < 12) (hi : i ≤ wc) : Met l yX6_putIn wsX6_putIn rmkX6_putIn (va_Pc [.ref w0, .int (nI i), .int x] (kPre D sz [(w0, .inr (6, [.ref w1, .int (nI wc)])), (w1, .inl (cI, 12, .inl f))] (kT cI cC cJ cZ cQ))) (kQv D [(w0, .inr (6, [.ref w1, .int (nI (wc + 1))])), (w1, .inl (cI, 12, .inl (insA f i wc x)))] (va_A [(w0, .inr (6, [.ref w1, .int (nI wc)])), (w1, .inl (cI, 12, .inl f))] sz)) 0 0 (va_A [(w0, .inr (6, [.ref w1, .int (nI wc)])), (w1, .inl (cI, 12, .inl f))] sz) := by
  refine k_met (Qf := kQv D [(w0, .inr (6, [.ref w1, .int (nI (wc + 1))])), (w1, .inl (cI, 12, .inl (insA f i wc x)))]) (cc := cX6_putIn) (maxL := 4) (ret := none) (own := RX6) (by decide) rfl (Nat.le_of_ble_eq_true rfl) rfl ?_
  intro p e s m args below meth c ls A H locs hx hb hr hts hown hlocks hml hin hsz hP hK hD hA hS hN hl
  have hl : lv_has ls 4 [(0, .ref w0), (1, .int (nI i)), (2, .int x)] := hl
  refine lv_aload_n hx hb dX6_putIn_0 rfl (lv_at hl 0 rfl) ?_
  refine va_get (D := D) (ci := 6) (v := .int (nI wc)) (C := RX6) (T := TX6) (N := 2) hx hb hts inX6_putIn_6 hown hK hP 0 rfl rfl 1 (by decide) (hts (.fieldLink RX6 18 "WeighingConverter$Weights" "count" "I") (List.mem_of_getElem? (i := 1) rfl)) (fun _ h9 => h9) rfl dX6_putIn_1 ?_
  refine lv_istore_n (lv' := [(3, .int (nI wc)), (0, .ref w0), (1, .int (nI i)), (2, .int x)]) hx hb dX6_putIn_4 rfl hl (by decide) rfl (fun ls hl => ?_)
  have J5 : ∀ (fuel : Nat) (k : Nat) (g : Nat → Int32) (hk : i ≤ k) (hk2 : k ≤ wc) (hg : ∀ j, g j = if k < j ∧ j ≤ wc then f (j - 1) else f j) (hm : k < fuel) (H : Heap) (locs : List Loc) (hP : va_P D vwCl [(w0, .inr (6, [.ref w1, .int (nI wc)])), (w1, .inl (cI, 12, .inl g))] H) (hD : va_D A [(w0, .inr (6, [.ref w1, .int (nI wc)])), (w1, .inl (cI, 12, .inl g))]) (hS : va_S A s.heap H locs) (ls : Array Slot) (hl : lv_has ls 4 [(3, .int (nI k)), (0, .ref w0), (1, .int (nI i)), (2, .int x)]), W p l e rmkX6_putIn s m args below meth c H locs 0 0 (MQ below (kQv D [(w0, .inr (6, [.ref w1, .int (nI (wc + 1))])), (w1, .inl (cI, 12, .inl (insA f i wc x)))] A) args s 0 0 A) (F0 m 5 ls []) := by
    intro fuel
    induction fuel with
    | zero => intro k g hk hk2 hg hm; exact absurd hm (Nat.not_lt_zero _)
    | succ fuel ih5 =>
      intro k g hk hk2 hg hm H locs hP hD hS ls hl
      refine lv_iload_n hx hb dX6_putIn_5 rfl (lv_at hl 0 rfl) ?_
      refine lv_iload_n hx hb dX6_putIn_6 rfl (lv_at hl 2 rfl) ?_
      refine lv_icmp_le (tgt := 30) hx hb dX6_putIn_7 (by decide) (fun c_7 => ?_) (fun c_7 => ?_)
      · have c_7 : k ≤ i := (nI_leI (a := k) (b := i) (by omega) (by omega)).mp c_7
        refine lv_aload_n hx hb dX6_putIn_30 rfl (lv_at hl 1 rfl) ?_
        refine va_get (D := D) (ci := 6) (v := .ref w1) (C := RX6) (T := TX6) (N := 2) hx hb hts inX6_putIn_6 hown hK hP 0 rfl rfl 0 (by decide) (hts (.fieldLink RX6 9 "WeighingConverter$Weights" "sizes" "[I") (List.mem_of_getElem? (i := 2) rfl)) (fun _ h9 => h9) rfl dX6_putIn_31 ?_
        refine lv_iload_n hx hb dX6_putIn_34 rfl (lv_at hl 2 rfl) ?_
        refine lv_iload_n hx hb dX6_putIn_35 rfl (lv_at hl 3 rfl) ?_
        refine k_iast (k := i) hx hb hK hP hD hS 1 0 rfl rfl (by omega) (by decide) dX6_putIn_36 (fun H locs hP hD hS => ?_)
        have hP : va_P D vwCl [(w0, .inr (6, [.ref w1, .int (nI wc)])), (w1, .inl (cI, 12, .inl (upd g i x)))] H := hP
        have hD : va_D A [(w0, .inr (6, [.ref w1, .int (nI wc)])), (w1, .inl (cI, 12, .inl (upd g i x)))] := hD
        refine lv_aload_n hx hb dX6_putIn_37 rfl (lv_at hl 1 rfl) ?_
        refine lv_dup hx hb dX6_putIn_38 rfl ?_
        refine va_get (D := D) (ci := 6) (v := .int (nI wc)) (C := RX6) (T := TX6) (N := 2) hx hb hts inX6_putIn_6 hown hK hP 0 rfl rfl 1 (by decide) (hts (.fieldLink RX6 18 "WeighingConverter$Weights" "count" "I") (List.mem_of_getElem? (i := 1) rfl)) (fun _ h9 => h9) rfl dX6_putIn_39 ?_
        refine lv_iconst (v := 1) hx hb dX6_putIn_42 (by decide) ?_
        refine lv_iadd hx hb dX6_putIn_43 ?_
        refine k_topi (y := nI (wc + 1)) (nI_add wc 1) ?_
        refine va_put (D := D) (ci := 6) (v := .int (nI (wc + 1))) (ty := .int) (C := RX6) (T := TX6) (N := 2) hx hb hts inX6_putIn_6 tyX6 tyX6_ok nmX6 hown hK hP hD hS 0 rfl rfl 1 (by decide) (hts (.fieldLink RX6 18 "WeighingConverter$Weights" "count" "I") (List.mem_of_getElem? (i := 1) rfl)) (fun _ h9 => h9) rfl (by decide +kernel) rfl rfl (Nat.le_of_ble_eq_true rfl) dX6_putIn_44 (fun H locs hP hD hS => ?_)
        have hP : va_P D vwCl [(w0, .inr (6, [.ref w1, .int (nI (wc + 1))])), (w1, .inl (cI, 12, .inl (upd g i x)))] H := hP
        have hD : va_D A [(w0, .inr (6, [.ref w1, .int (nI (wc + 1))])), (w1, .inl (cI, 12, .inl (upd g i x)))] := hD
        have hP := k_arr hP 1 rfl (g := insA f i wc x) (fun j _ => by simp only [insA, upd, hg]; (repeat' split) <;> first | rfl | omega | (congr 1; omega))
        have hD := hD.set (p := 1) (e := .inl (cI, 12, .inl (insA f i wc x))) rfl
        have hP : va_P D vwCl [(w0, .inr (6, [.ref w1, .int (nI (wc + 1))])), (w1, .inl (cI, 12, .inl (insA f i wc x)))] H := hP
        have hD : va_D A [(w0, .inr (6, [.ref w1, .int (nI (wc + 1))])), (w1, .inl (cI, 12, .inl (insA f i wc x)))] := hD
        have hP9 := hP.sub (ws' := [(w0, .inr (6, [.ref w1, .int (nI (wc + 1))])), (w1, .inl (cI, 12, .inl (insA f i wc x)))]) [0, 1] rfl
        have hD9 := hD.sub (ws' := [(w0, .inr (6, [.ref w1, .int (nI (wc + 1))])), (w1, .inl (cI, 12, .inl (insA f i wc x)))]) [0, 1] (by decide) rfl
        exact kr_v hx hb hr hlocks hP9 hD9 hS dX6_putIn_47
      · have c_7 : ¬ k ≤ i := fun h => c_7 ((nI_leI (a := k) (b := i) (by omega) (by omega)).mpr h)
        refine lv_aload_n hx hb dX6_putIn_10 rfl (lv_at hl 1 rfl) ?_
        refine va_get (D := D) (ci := 6) (v := .ref w1) (C := RX6) (T := TX6) (N := 2) hx hb hts inX6_putIn_6 hown hK hP 0 rfl rfl 0 (by decide) (hts (.fieldLink RX6 9 "WeighingConverter$Weights" "sizes" "[I") (List.mem_of_getElem? (i := 2) rfl)) (fun _ h9 => h9) rfl dX6_putIn_11 ?_
        refine lv_iload_n hx hb dX6_putIn_14 rfl (lv_at hl 0 rfl) ?_
        refine lv_aload_n hx hb dX6_putIn_15 rfl (lv_at hl 1 rfl) ?_
        refine va_get (D := D) (ci := 6) (v := .ref w1) (C := RX6) (T := TX6) (N := 2) hx hb hts inX6_putIn_6 hown hK hP 0 rfl rfl 0 (by decide) (hts (.fieldLink RX6 9 "WeighingConverter$Weights" "sizes" "[I") (List.mem_of_getElem? (i := 2) rfl)) (fun _ h9 => h9) rfl dX6_putIn_16 ?_
        refine lv_iload_n hx hb dX6_putIn_19 rfl (lv_at hl 0 rfl) ?_
        refine lv_iconst (v := 1) hx hb dX6_putIn_20 (by decide) ?_
        refine lv_isub hx hb dX6_putIn_21 ?_
        refine k_topi (y := nI (k - 1)) (pk_sub (a := k) (b := 1) (by omega)) ?_
        refine k_iald (k := k - 1) hx hb hK hP 1 0 rfl rfl (by omega) (by decide) dX6_putIn_22 ?_
        refine k_iast (k := k) hx hb hK hP hD hS 1 0 rfl rfl (by omega) (by decide) dX6_putIn_23 (fun H locs hP hD hS => ?_)
        have hP : va_P D vwCl [(w0, .inr (6, [.ref w1, .int (nI wc)])), (w1, .inl (cI, 12, .inl (upd g k (g (k - 1)))))] H := hP
        have hD : va_D A [(w0, .inr (6, [.ref w1, .int (nI wc)])), (w1, .inl (cI, 12, .inl (upd g k (g (k - 1)))))] := hD
        refine lv_iinc (v := nI (k - 1)) (lv' := [(3, .int (nI (k - 1))), (0, .ref w0), (1, .int (nI i)), (2, .int x)]) hx hb dX6_putIn_24 hl (k := 0) rfl (k_dec1 k (by omega)) (by decide) rfl (fun ls hl => ?_)
        refine lv_goto (tgt := 5) hx hb dX6_putIn_27 (by decide) ?_
        exact ih5 (k - 1) (upd g k (g (k - 1))) (by first | assumption | omega) (by first | assumption | omega) (fun j => by simp only [upd, hg]; (repeat' split) <;> first | rfl | omega | (congr 1; omega)) (by omega) _ _ (hP.sub [0, 1] rfl) (hD.sub [0, 1] (by decide) rfl) hS _ (lv_sub hl [0, 1, 2, 3] rfl)
  exact J5 (wc + 1) wc f (by first | assumption | omega) (by first | assumption | omega) (fun j => by rw [if_neg (by omega)]) (Nat.lt_succ_self _) _ _ (hP.sub [0, 1] rfl) (hD.sub [0, 1] (by decide) rfl) hS _ (lv_sub hl [0, 1, 2, 3] rfl)

theorem inX6_takeOut_6 : ∀ w ∈ wsX60, w ∈ wsX6_takeOut := fun _ h => List.mem_cons_of_mem _ (List.mem_append_right _ h)
abbrev rmkX6_takeOut : Room := { frames := 0, cells := 0, slots := 0, locals := 0 }
set_option maxHeartbeats 4000000 in
set_option maxRecDepth 100000 in
theorem kX6_takeOut (l : Launch) (D : va_G) (sz : Nat) (cI : ClassId) (cC : ClassId) (cJ : ClassId) (cZ : ClassId) (cQ : ClassId) (w0 : Nat) (w1 : Nat) (wc : Nat) (f : Nat → Int32) (i : Nat) (hwc : wc ≤ 12) (hi : i < wc) : Met l yX6_takeOut wsX6_takeOut rmkX6_takeOut (va_Pc [.ref w0, .int (nI i)] (kPre D sz [(w0, .inr (6, [.ref w1, .int (nI wc)])), (w1, .inl (cI, 12, .inl f))] (kT cI cC cJ cZ cQ))) (kQi D (f i) [(w0, .inr (6, [.ref w1, .int (nI (wc - 1))])), (w1, .inl (cI, 12, .inl (delA f i wc)))] (va_A [(w0, .inr (6, [.ref w1, .int (nI wc)])), (w1, .inl (cI, 12, .inl f))] sz)) 0 0 (va_A [(w0, .inr (6, [.ref w1, .int (nI wc)])), (w1, .inl (cI, 12, .inl f))] sz) := by
  refine k_met (Qf := kQi D (f i) [(w0, .inr (6, [.ref w1, .int (nI (wc - 1))])), (w1, .inl (cI, 12, .inl (delA f i wc)))]) (cc := cX6_takeOut) (maxL := 4) (ret := (some .int)) (own := RX6) (by decide) rfl (Nat.le_of_ble_eq_true rfl) rfl ?_
  intro p e s m args below meth c ls A H locs hx hb hr hts hown hlocks hml hin hsz hP hK hD hA hS hN hl
  have hl : lv_has ls 4 [(0, .ref w0), (1, .int (nI i))] := hl
  refine lv_aload_n hx hb dX6_takeOut_0 rfl (lv_at hl 0 rfl) ?_
  refine va_get (D := D) (ci := 6) (v := .ref w1) (C := RX6) (T := TX6) (N := 2) hx hb hts inX6_takeOut_6 hown hK hP 0 rfl rfl 0 (by decide) (hts (.fieldLink RX6 9 "WeighingConverter$Weights" "sizes" "[I") (List.mem_of_getElem? (i := 1) rfl)) (fun _ h9 => h9) rfl dX6_takeOut_1 ?_
  refine lv_iload_n hx hb dX6_takeOut_4 rfl (lv_at hl 1 rfl) ?_
  refine k_iald (k := i) hx hb hK hP 1 0 rfl rfl (by omega) (by decide) dX6_takeOut_5 ?_
  refine lv_istore_n (lv' := [(2, .int (f i)), (0, .ref w0), (1, .int (nI i))]) hx hb dX6_takeOut_6 rfl hl (by decide) rfl (fun ls hl => ?_)
  refine lv_aload_n hx hb dX6_takeOut_7 rfl (lv_at hl 1 rfl) ?_
  refine lv_dup hx hb dX6_takeOut_8 rfl ?_
  refine va_get (D := D) (ci := 6) (v := .int (nI wc)) (C := RX6) (T := TX6) (N := 2) hx hb hts inX6_takeOut_6 hown hK hP 0 rfl rfl 1 (by decide) (hts (.fieldLink RX6 18 "WeighingConverter$Weights" "count" "I") (List.mem_of_getElem? (i := 2) rfl)) (fun _ h9 => h9) rfl dX6_takeOut_9 ?_
  refine lv_iconst (v := 1) hx hb dX6_takeOut_12 (by decide) ?_
  refine lv_isub hx hb dX6_takeOut_13 ?_
  refine k_topi (y := nI (wc - 1)) (pk_sub (a := wc) (b := 1) (by omega)) ?_
  refine va_put (D := D) (ci := 6) (v := .int (nI (wc - 1))) (ty := .int) (C := RX6) (T := TX6) (N := 2) hx hb hts inX6_takeOut_6 tyX6 tyX6_ok nmX6 hown hK hP hD hS 0 rfl rfl 1 (by decide) (hts (.fieldLink RX6 18 "WeighingConverter$Weights" "count" "I") (List.mem_of_getElem? (i := 2) rfl)) (fun _ h9 => h9) rfl (by decide +kernel) rfl rfl (Nat.le_of_ble_eq_true rfl) dX6_takeOut_14 (fun H locs hP hD hS => ?_)
  have hP : va_P D vwCl [(w0, .inr (6, [.ref w1, .int (nI (wc - 1))])), (w1, .inl (cI, 12, .inl f))] H := hP
  have hD : va_D A [(w0, .inr (6, [.ref w1, .int (nI (wc - 1))])), (w1, .inl (cI, 12, .inl f))] := hD
  refine lv_iload_n hx hb dX6_takeOut_17 rfl (lv_at hl 2 rfl) ?_
  refine lv_istore_n (lv' := [(3, .int (nI i)), (2, .int (f i)), (0, .ref w0), (1, .int (nI i))]) hx hb dX6_takeOut_18 rfl hl (by decide) rfl (fun ls hl => ?_)
  have J19 : ∀ (fuel : Nat) (k : Nat) (g : Nat → Int32) (hk : i ≤ k) (hk2 : k ≤ wc - 1) (hg : ∀ j, g j = if i ≤ j ∧ j < k then f (j + 1) else f j) (hm : wc - 1 - k < fuel) (H : Heap) (locs : List Loc) (hP : va_P D vwCl [(w0, .inr (6, [.ref w1, .int (nI (wc - 1))])), (w1, .inl (cI, 12, .inl g))] H) (hD : va_D A [(w0, .inr (6, [.ref w1, .int (nI (wc - 1))])), (w1, .inl (cI, 12, .inl g))]) (hS : va_S A s.heap H locs) (ls : Array Slot) (hl : lv_has ls 4 [(3, .int (nI k)), (2, .int (f i)), (0, .ref w0), (1, .int (nI i))]), W p l e rmkX6_takeOut s m args below meth c H locs 0 0 (MQ below (kQi D (f i) [(w0, .inr (6, [.ref w1, .int (nI (wc - 1))])), (w1, .inl (cI, 12, .inl (delA f i wc)))] A) args s 0 0 A) (F0 m 19 ls []) := by
    intro fuel
    induction fuel with
    | zero => intro k g hk hk2 hg hm; exact absurd hm (Nat.not_lt_zero _)
    | succ fuel ih19 =>
      intro k g hk hk2 hg hm H locs hP hD hS ls hl
      refine lv_iload_n hx hb dX6_takeOut_19 rfl (lv_at hl 0 rfl) ?_
      refine lv_aload_n hx hb dX6_takeOut_20 rfl (lv_at hl 2 rfl) ?_
      refine va_get (D := D) (ci := 6) (v := .int (nI (wc - 1))) (C := RX6) (T := TX6) (N := 2) hx hb hts inX6_takeOut_6 hown hK hP 0 rfl rfl 1 (by decide) (hts (.fieldLink RX6 18 "WeighingConverter$Weights" "count" "I") (List.mem_of_getElem? (i := 2) rfl)) (fun _ h9 => h9) rfl dX6_takeOut_21 ?_
      refine lv_icmp_ge (tgt := 47) hx hb dX6_takeOut_24 (by decide) (fun c_24 => ?_) (fun c_24 => ?_)
      · have c_24 : (wc - 1) ≤ k := (nI_leI (a := (wc - 1)) (b := k) (by omega) (by omega)).mp c_24
        refine lv_iload_n hx hb dX6_takeOut_47 rfl (lv_at hl 1 rfl) ?_
        have hP := k_arr hP 1 rfl (g := delA f i wc) (fun j _ => by rw [hg, delA, show k = wc - 1 from by omega])
        have hD := hD.set (p := 1) (e := .inl (cI, 12, .inl (delA f i wc))) rfl
        have hP : va_P D vwCl [(w0, .inr (6, [.ref w1, .int (nI (wc - 1))])), (w1, .inl (cI, 12, .inl (delA f i wc)))] H := hP
        have hD : va_D A [(w0, .inr (6, [.ref w1, .int (nI (wc - 1))])), (w1, .inl (cI, 12, .inl (delA f i wc)))] := hD
        have hP9 := hP.sub (ws' := [(w0, .inr (6, [.ref w1, .int (nI (wc - 1))])), (w1, .inl (cI, 12, .inl (delA f i wc)))]) [0, 1] rfl
        have hD9 := hD.sub (ws' := [(w0, .inr (6, [.ref w1, .int (nI (wc - 1))])), (w1, .inl (cI, 12, .inl (delA f i wc)))]) [0, 1] (by decide) rfl
        exact kr_i (v := f i) hx hb hr hlocks hP9 hD9 hS rfl dX6_takeOut_48
      · have c_24 : ¬ (wc - 1) ≤ k := fun h => c_24 ((nI_leI (a := (wc - 1)) (b := k) (by omega) (by omega)).mpr h)
        refine lv_aload_n hx hb dX6_takeOut_27 rfl (lv_at hl 2 rfl) ?_
        refine va_get (D := D) (ci := 6) (v := .ref w1) (C := RX6) (T := TX6) (N := 2) hx hb hts inX6_takeOut_6 hown hK hP 0 rfl rfl 0 (by decide) (hts (.fieldLink RX6 9 "WeighingConverter$Weights" "sizes" "[I") (List.mem_of_getElem? (i := 1) rfl)) (fun _ h9 => h9) rfl dX6_takeOut_28 ?_
        refine lv_iload_n hx hb dX6_takeOut_31 rfl (lv_at hl 0 rfl) ?_
        refine lv_aload_n hx hb dX6_takeOut_32 rfl (lv_at hl 2 rfl) ?_
        refine va_get (D := D) (ci := 6) (v := .ref w1) (C := RX6) (T := TX6) (N := 2) hx hb hts inX6_takeOut_6 hown hK hP 0 rfl rfl 0 (by decide) (hts (.fieldLink RX6 9 "WeighingConverter$Weights" "sizes" "[I") (List.mem_of_getElem? (i := 1) rfl)) (fun _ h9 => h9) rfl dX6_takeOut_33 ?_
        refine lv_iload_n hx hb dX6_takeOut_36 rfl (lv_at hl 0 rfl) ?_
        refine lv_iconst (v := 1) hx hb dX6_takeOut_37 (by decide) ?_
        refine lv_iadd hx hb dX6_takeOut_38 ?_
        refine k_topi (y := nI (k + 1)) (nI_add k 1) ?_
        refine k_iald (k := k + 1) hx hb hK hP 1 0 rfl rfl (by omega) (by decide) dX6_takeOut_39 ?_
        refine k_iast (k := k) hx hb hK hP hD hS 1 0 rfl rfl (by omega) (by decide) dX6_takeOut_40 (fun H locs hP hD hS => ?_)
        have hP : va_P D vwCl [(w0, .inr (6, [.ref w1, .int (nI (wc - 1))])), (w1, .inl (cI, 12, .inl (upd g k (g (k + 1)))))] H := hP
        have hD : va_D A [(w0, .inr (6, [.ref w1, .int (nI (wc - 1))])), (w1, .inl (cI, 12, .inl (upd g k (g (k + 1)))))] := hD
        refine lv_iinc (v := nI (k + 1)) (lv' := [(3, .int (nI (k + 1))), (2, .int (f i)), (0, .ref w0), (1, .int (nI i))]) hx hb dX6_takeOut_41 hl (k := 0) rfl (by exact k_inc k) (by decide) rfl (fun ls hl => ?_)
        refine lv_goto (tgt := 19) hx hb dX6_takeOut_44 (by decide) ?_
        exact ih19 (k + 1) (upd g k (g (k + 1))) (by first | assumption | omega) (by first | assumption | omega) (fun j => by simp only [upd, hg]; (repeat' split) <;> first | rfl | omega | (congr 1; omega)) (by omega) _ _ (hP.sub [0, 1] rfl) (hD.sub [0, 1] (by decide) rfl) hS _ (lv_sub hl [0, 1, 2, 3] rfl)
  exact J19 (wc - 1 - i + 1) i f (by first | assumption | omega) (by first | assumption | omega) (fun j => by rw [if_neg (by omega)]) (Nat.lt_succ_self _) _ _ (hP.sub [0, 1] rfl) (hD.sub [0, 1] (by decide) rfl) hS _ (lv_sub hl [0, 1, 2, 3] rfl)

theorem inX6_sortDescending_6 : ∀ w ∈ wsX60, w ∈ wsX6_sortDescending := fun _ h => List.mem_cons_of_mem _ (List.mem_append_right _ h)
abbrev rmkX6_sortDescending : Room := { frames := 0, cells := 0, slots := 0, locals := 0 }
set_option maxHeartbeats 4000000 in
set_option maxRecDepth 100000 in
theorem kX6_sortDescending (l : Launch) (D : va_G) (sz : Nat) (cI : ClassId) (cC : ClassId) (cJ : ClassId) (cZ : ClassId) (cQ : ClassId) (w0 : Nat) (w1 : Nat) (wc : Nat) (f : Nat → Int32) (hwc : wc ≤ 12) (hw1 : 1 ≤ wc) : Met l yX6_sortDescending wsX6_sortDescending rmkX6_sortDescending (va_Pc [.ref w0] (kPre D sz [(w0, .inr (6, [.ref w1, .int (nI wc)])), (w1, .inl (cI, 12, .inl f))] (kT cI cC cJ cZ cQ))) (kQv D [(w0, .inr (6, [.ref w1, .int (nI wc)])), (w1, .inl (cI, 12, .inl (srtG f (wc - 1))))] (va_A [(w0, .inr (6, [.ref w1, .int (nI wc)])), (w1, .inl (cI, 12, .inl f))] sz)) 0 0 (va_A [(w0, .inr (6, [.ref w1, .int (nI wc)])), (w1, .inl (cI, 12, .inl f))] sz) := by
  refine k_met (Qf := kQv D [(w0, .inr (6, [.ref w1, .int (nI wc)])), (w1, .inl (cI, 12, .inl (srtG f (wc - 1))))]) (cc := cX6_sortDescending) (maxL := 4) (ret := none) (own := RX6) (by decide) rfl (Nat.le_of_ble_eq_true rfl) rfl ?_
  intro p e s m args below meth c ls A H locs hx hb hr hts hown hlocks hml hin hsz hP hK hD hA hS hN hl
  have hl : lv_has ls 4 [(0, .ref w0)] := hl
  refine lv_iconst (v := 1) hx hb dX6_sortDescending_0 (by decide) ?_
  refine lv_istore_n (lv' := [(1, .int 1), (0, .ref w0)]) hx hb dX6_sortDescending_1 rfl hl (by decide) rfl (fun ls hl => ?_)
  have J2 : ∀ (fuel : Nat) (k : Nat) (hk : k + 1 ≤ wc) (hm : wc - k < fuel) (H : Heap) (locs : List Loc) (hP : va_P D vwCl [(w0, .inr (6, [.ref w1, .int (nI wc)])), (w1, .inl (cI, 12, .inl (srtG f k)))] H) (hD : va_D A [(w0, .inr (6, [.ref w1, .int (nI wc)])), (w1, .inl (cI, 12, .inl (srtG f k)))]) (hS : va_S A s.heap H locs) (ls : Array Slot) (hl : lv_has ls 4 [(1, .int (nI (k + 1))), (0, .ref w0)]), W p l e rmkX6_sortDescending s m args below meth c H locs 0 0 (MQ below (kQv D [(w0, .inr (6, [.ref w1, .int (nI wc)])), (w1, .inl (cI, 12, .inl (srtG f (wc - 1))))] A) args s 0 0 A) (F0 m 2 ls []) := by
    intro fuel
    induction fuel with
    | zero => intro k hk hm; exact absurd hm (Nat.not_lt_zero _)
    | succ fuel ih2 =>
      intro k hk hm H locs hP hD hS ls hl
      refine lv_iload_n hx hb dX6_sortDescending_2 rfl (lv_at hl 0 rfl) ?_
      refine lv_aload_n hx hb dX6_sortDescending_3 rfl (lv_at hl 1 rfl) ?_
      refine va_get (D := D) (ci := 6) (v := .int (nI wc)) (C := RX6) (T := TX6) (N := 2) hx hb hts inX6_sortDescending_6 hown hK hP 0 rfl rfl 1 (by decide) (hts (.fieldLink RX6 18 "WeighingConverter$Weights" "count" "I") (List.mem_of_getElem? (i := 1) rfl)) (fun _ h9 => h9) rfl dX6_sortDescending_4 ?_
      refine lv_icmp_ge (tgt := 68) hx hb dX6_sortDescending_7 (by decide) (fun c_7 => ?_) (fun c_7 => ?_)
      · have c_7 : wc ≤ (k + 1) := (nI_leI (a := wc) (b := (k + 1)) (by omega) (by omega)).mp c_7
        have hP := k_arr hP 1 rfl (g := srtG f (wc - 1)) (fun j _ => by rw [show k = wc - 1 from by omega])
        have hD := hD.set (p := 1) (e := .inl (cI, 12, .inl (srtG f (wc - 1)))) rfl
        have hP : va_P D vwCl [(w0, .inr (6, [.ref w1, .int (nI wc)])), (w1, .inl (cI, 12, .inl (srtG f (wc - 1))))] H := hP
        have hD : va_D A [(w0, .inr (6, [.ref w1, .int (nI wc)])), (w1, .inl (cI, 12, .inl (srtG f (wc - 1))))] := hD
        have hP9 := hP.sub (ws' := [(w0, .inr (6, [.ref w1, .int (nI wc)])), (w1, .inl (cI, 12, .inl (srtG f (wc - 1))))]) [0, 1] rfl
        have hD9 := hD.sub (ws' := [(w0, .inr (6, [.ref w1, .int (nI wc)])), (w1, .inl (cI, 12, .inl (srtG f (wc - 1))))]) [0, 1] (by decide) rfl
        exact kr_v hx hb hr hlocks hP9 hD9 hS dX6_sortDescending_68
      · have c_7 : ¬ wc ≤ (k + 1) := fun h => c_7 ((nI_leI (a := wc) (b := (k + 1)) (by omega) (by omega)).mpr h)
        refine lv_aload_n hx hb dX6_sortDescending_10 rfl (lv_at hl 1 rfl) ?_
        refine va_get (D := D) (ci := 6) (v := .ref w1) (C := RX6) (T := TX6) (N := 2) hx hb hts inX6_sortDescending_6 hown hK hP 0 rfl rfl 0 (by decide) (hts (.fieldLink RX6 9 "WeighingConverter$Weights" "sizes" "[I") (List.mem_of_getElem? (i := 2) rfl)) (fun _ h9 => h9) rfl dX6_sortDescending_11 ?_
        refine lv_iload_n hx hb dX6_sortDescending_14 rfl (lv_at hl 0 rfl) ?_
        refine k_iald (k := k + 1) hx hb hK hP 1 0 rfl rfl (by omega) (by decide) dX6_sortDescending_15 ?_
        refine lv_istore_n (lv' := [(2, .int ((srtG f k) (k + 1))), (1, .int (nI (k + 1))), (0, .ref w0)]) hx hb dX6_sortDescending_16 rfl hl (by decide) rfl (fun ls hl => ?_)
        refine lv_iload_n hx hb dX6_sortDescending_17 rfl (lv_at hl 1 rfl) ?_
        refine lv_istore_n (lv' := [(3, .int (nI (k + 1))), (2, .int ((srtG f k) (k + 1))), (1, .int (nI (k + 1))), (0, .ref w0)]) hx hb dX6_sortDescending_18 rfl hl (by decide) rfl (fun ls hl => ?_)
        have J19 : ∀ (fuel : Nat) (j : Nat) (g : Nat → Int32) (hj : j ≤ k + 1) (hg : insG g (srtG f k (k + 1)) j = srtG f (k + 1)) (hm : j < fuel) (H : Heap) (locs : List Loc) (hP : va_P D vwCl [(w0, .inr (6, [.ref w1, .int (nI wc)])), (w1, .inl (cI, 12, .inl g))] H) (hD : va_D A [(w0, .inr (6, [.ref w1, .int (nI wc)])), (w1, .inl (cI, 12, .inl g))]) (hS : va_S A s.heap H locs) (ls : Array Slot) (hl : lv_has ls 4 [(3, .int (nI j)), (2, .int ((srtG f k) (k + 1))), (1, .int (nI (k + 1))), (0, .ref w0)]), W p l e rmkX6_sortDescending s m args below meth c H locs 0 0 (MQ below (kQv D [(w0, .inr (6, [.ref w1, .int (nI wc)])), (w1, .inl (cI, 12, .inl (srtG f (wc - 1))))] A) args s 0 0 A) (F0 m 19 ls []) := by
          intro fuel
          induction fuel with
          | zero => intro j g hj hg hm; exact absurd hm (Nat.not_lt_zero _)
          | succ fuel ih19 =>
            intro j g hj hg hm H locs hP hD hS ls hl
            refine lv_iload_n hx hb dX6_sortDescending_19 rfl (lv_at hl 0 rfl) ?_
            refine lv_if_le (tgt := 55) hx hb dX6_sortDescending_20 (by decide) (fun c_20 => ?_) (fun c_20 => ?_)
            · have c_20 : j ≤ 0 := (nI_leI (a := j) (b := 0) (by omega) (by omega)).mp c_20
              refine lv_aload_n hx hb dX6_sortDescending_55 rfl (lv_at hl 3 rfl) ?_
              refine va_get (D := D) (ci := 6) (v := .ref w1) (C := RX6) (T := TX6) (N := 2) hx hb hts inX6_sortDescending_6 hown hK hP 0 rfl rfl 0 (by decide) (hts (.fieldLink RX6 9 "WeighingConverter$Weights" "sizes" "[I") (List.mem_of_getElem? (i := 2) rfl)) (fun _ h9 => h9) rfl dX6_sortDescending_56 ?_
              refine lv_iload_n hx hb dX6_sortDescending_59 rfl (lv_at hl 0 rfl) ?_
              refine lv_iload_n hx hb dX6_sortDescending_60 rfl (lv_at hl 1 rfl) ?_
              refine k_iast (k := j) hx hb hK hP hD hS 1 0 rfl rfl (by omega) (by decide) dX6_sortDescending_61 (fun H locs hP hD hS => ?_)
              have hP : va_P D vwCl [(w0, .inr (6, [.ref w1, .int (nI wc)])), (w1, .inl (cI, 12, .inl (upd g j ((srtG f k) (k + 1)))))] H := hP
              have hD : va_D A [(w0, .inr (6, [.ref w1, .int (nI wc)])), (w1, .inl (cI, 12, .inl (upd g j ((srtG f k) (k + 1)))))] := hD
              have hP := k_arr hP 1 rfl (g := srtG f (k + 1)) (fun i9 _ => by rw [← hg]; first | rw [insG_z (by omega)] | rw [insG_stop (by omega) c_32])
              have hD := hD.set (p := 1) (e := .inl (cI, 12, .inl (srtG f (k + 1)))) rfl
              have hP : va_P D vwCl [(w0, .inr (6, [.ref w1, .int (nI wc)])), (w1, .inl (cI, 12, .inl (srtG f (k + 1))))] H := hP
              have hD : va_D A [(w0, .inr (6, [.ref w1, .int (nI wc)])), (w1, .inl (cI, 12, .inl (srtG f (k + 1))))] := hD
              refine lv_iinc (v := nI (k + 1 + 1)) (lv' := [(1, .int (nI (k + 1 + 1))), (3, .int (nI j)), (2, .int ((srtG f k) (k + 1))), (0, .ref w0)]) hx hb dX6_sortDescending_62 hl (k := 2) rfl (by exact k_inc (k + 1)) (by decide) rfl (fun ls hl => ?_)
              refine lv_goto (tgt := 2) hx hb dX6_sortDescending_65 (by decide) ?_
              exact ih2 (k + 1) (by first | assumption | omega) (by omega) _ _ (hP.sub [0, 1] rfl) (hD.sub [0, 1] (by decide) rfl) hS _ (lv_sub hl [0, 3] rfl)
            · have c_20 : ¬ j ≤ 0 := fun h => c_20 ((nI_leI (a := j) (b := 0) (by omega) (by omega)).mpr h)
              refine lv_aload_n hx hb dX6_sortDescending_23 rfl (lv_at hl 3 rfl) ?_
              refine va_get (D := D) (ci := 6) (v := .ref w1) (C := RX6) (T := TX6) (N := 2) hx hb hts inX6_sortDescending_6 hown hK hP 0 rfl rfl 0 (by decide) (hts (.fieldLink RX6 9 "WeighingConverter$Weights" "sizes" "[I") (List.mem_of_getElem? (i := 2) rfl)) (fun _ h9 => h9) rfl dX6_sortDescending_24 ?_
              refine lv_iload_n hx hb dX6_sortDescending_27 rfl (lv_at hl 0 rfl) ?_
              refine lv_iconst (v := 1) hx hb dX6_sortDescending_28 (by decide) ?_
              refine lv_isub hx hb dX6_sortDescending_29 ?_
              refine k_topi (y := nI (j - 1)) (pk_sub (a := j) (b := 1) (by omega)) ?_
              refine k_iald (k := j - 1) hx hb hK hP 1 0 rfl rfl (by omega) (by decide) dX6_sortDescending_30 ?_
              refine lv_iload_n hx hb dX6_sortDescending_31 rfl (lv_at hl 1 rfl) ?_
              refine lv_icmp_ge (tgt := 55) hx hb dX6_sortDescending_32 (by decide) (fun c_32 => ?_) (fun c_32 => ?_)
              · refine lv_aload_n hx hb dX6_sortDescending_55 rfl (lv_at hl 3 rfl) ?_
                refine va_get (D := D) (ci := 6) (v := .ref w1) (C := RX6) (T := TX6) (N := 2) hx hb hts inX6_sortDescending_6 hown hK hP 0 rfl rfl 0 (by decide) (hts (.fieldLink RX6 9 "WeighingConverter$Weights" "sizes" "[I") (List.mem_of_getElem? (i := 2) rfl)) (fun _ h9 => h9) rfl dX6_sortDescending_56 ?_
                refine lv_iload_n hx hb dX6_sortDescending_59 rfl (lv_at hl 0 rfl) ?_
                refine lv_iload_n hx hb dX6_sortDescending_60 rfl (lv_at hl 1 rfl) ?_
                refine k_iast (k := j) hx hb hK hP hD hS 1 0 rfl rfl (by omega) (by decide) dX6_sortDescending_61 (fun H locs hP hD hS => ?_)
                have hP : va_P D vwCl [(w0, .inr (6, [.ref w1, .int (nI wc)])), (w1, .inl (cI, 12, .inl (upd g j ((srtG f k) (k + 1)))))] H := hP
                have hD : va_D A [(w0, .inr (6, [.ref w1, .int (nI wc)])), (w1, .inl (cI, 12, .inl (upd g j ((srtG f k) (k + 1)))))] := hD
                have hP := k_arr hP 1 rfl (g := srtG f (k + 1)) (fun i9 _ => by rw [← hg]; first | rw [insG_z (by omega)] | rw [insG_stop (by omega) c_32])
                have hD := hD.set (p := 1) (e := .inl (cI, 12, .inl (srtG f (k + 1)))) rfl
                have hP : va_P D vwCl [(w0, .inr (6, [.ref w1, .int (nI wc)])), (w1, .inl (cI, 12, .inl (srtG f (k + 1))))] H := hP
                have hD : va_D A [(w0, .inr (6, [.ref w1, .int (nI wc)])), (w1, .inl (cI, 12, .inl (srtG f (k + 1))))] := hD
                refine lv_iinc (v := nI (k + 1 + 1)) (lv' := [(1, .int (nI (k + 1 + 1))), (3, .int (nI j)), (2, .int ((srtG f k) (k + 1))), (0, .ref w0)]) hx hb dX6_sortDescending_62 hl (k := 2) rfl (by exact k_inc (k + 1)) (by decide) rfl (fun ls hl => ?_)
                refine lv_goto (tgt := 2) hx hb dX6_sortDescending_65 (by decide) ?_
                exact ih2 (k + 1) (by first | assumption | omega) (by omega) _ _ (hP.sub [0, 1] rfl) (hD.sub [0, 1] (by decide) rfl) hS _ (lv_sub hl [0, 3] rfl)
              · refine lv_aload_n hx hb dX6_sortDescending_35 rfl (lv_at hl 3 rfl) ?_
                refine va_get (D := D) (ci := 6) (v := .ref w1) (C := RX6) (T := TX6) (N := 2) hx hb hts inX6_sortDescending_6 hown hK hP 0 rfl rfl 0 (by decide) (hts (.fieldLink RX6 9 "WeighingConverter$Weights" "sizes" "[I") (List.mem_of_getElem? (i := 2) rfl)) (fun _ h9 => h9) rfl dX6_sortDescending_36 ?_
                refine lv_iload_n hx hb dX6_sortDescending_39 rfl (lv_at hl 0 rfl) ?_
                refine lv_aload_n hx hb dX6_sortDescending_40 rfl (lv_at hl 3 rfl) ?_
                refine va_get (D := D) (ci := 6) (v := .ref w1) (C := RX6) (T := TX6) (N := 2) hx hb hts inX6_sortDescending_6 hown hK hP 0 rfl rfl 0 (by decide) (hts (.fieldLink RX6 9 "WeighingConverter$Weights" "sizes" "[I") (List.mem_of_getElem? (i := 2) rfl)) (fun _ h9 => h9) rfl dX6_sortDescending_41 ?_
                refine lv_iload_n hx hb dX6_sortDescending_44 rfl (lv_at hl 0 rfl) ?_
                refine lv_iconst (v := 1) hx hb dX6_sortDescending_45 (by decide) ?_
                refine lv_isub hx hb dX6_sortDescending_46 ?_
                refine k_topi (y := nI (j - 1)) (pk_sub (a := j) (b := 1) (by omega)) ?_
                refine k_iald (k := j - 1) hx hb hK hP 1 0 rfl rfl (by omega) (by decide) dX6_sortDescending_47 ?_
                refine k_iast (k := j) hx hb hK hP hD hS 1 0 rfl rfl (by omega) (by decide) dX6_sortDescending_48 (fun H locs hP hD hS => ?_)
                have hP : va_P D vwCl [(w0, .inr (6, [.ref w1, .int (nI wc)])), (w1, .inl (cI, 12, .inl (upd g j (g (j - 1)))))] H := hP
                have hD : va_D A [(w0, .inr (6, [.ref w1, .int (nI wc)])), (w1, .inl (cI, 12, .inl (upd g j (g (j - 1)))))] := hD
                refine lv_iinc (v := nI (j - 1)) (lv' := [(3, .int (nI (j - 1))), (2, .int ((srtG f k) (k + 1))), (1, .int (nI (k + 1))), (0, .ref w0)]) hx hb dX6_sortDescending_49 hl (k := 0) rfl (k_dec1 j (by omega)) (by decide) rfl (fun ls hl => ?_)
                refine lv_goto (tgt := 19) hx hb dX6_sortDescending_52 (by decide) ?_
                exact ih19 (j - 1) (upd g j (g (j - 1))) (by first | assumption | omega) (by rw [← hg]; exact (insG_step (by omega) c_32).symm) (by omega) _ _ (hP.sub [0, 1] rfl) (hD.sub [0, 1] (by decide) rfl) hS _ (lv_sub hl [0, 1, 2, 3] rfl)
        exact J19 ((k + 1) + 1) (k + 1) (srtG f k) (by first | assumption | omega) rfl (Nat.lt_succ_self _) _ _ (hP.sub [0, 1] rfl) (hD.sub [0, 1] (by decide) rfl) hS _ (lv_sub hl [0, 1, 2, 3] rfl)
  exact J2 (wc - 0 + 1) 0 (by first | assumption | omega) (Nat.lt_succ_self _) _ _ (hP.sub [0, 1] rfl) (hD.sub [0, 1] (by decide) rfl) hS _ (lv_sub hl [0, 1] rfl)

theorem inX6_copyFrom_6 : ∀ w ∈ wsX60, w ∈ wsX6_copyFrom := fun _ h => List.mem_cons_of_mem _ (List.mem_append_right _ h)
abbrev rmkX6_copyFrom : Room := { frames := 1, cells := 0, slots := 0, locals := 60 }
set_option maxHeartbeats 4000000 in
set_option maxRecDepth 100000 in
theorem kX6_copyFrom (l : Launch) (D : va_G) (sz : Nat) (cI : ClassId) (cC : ClassId) (cJ : ClassId) (cZ : ClassId) (cQ : ClassId) (w0 : Nat) (w1 : Nat) (v0 : Nat) (v1 : Nat) (wc : Nat) (vc : Nat) (f : Nat → Int32) (g : Nat → Int32) : Met l yX6_copyFrom wsX6_copyFrom rmkX6_copyFrom (va_Pc [.ref w0, .ref v0] (kPre D sz [(w0, .inr (6, [.ref w1, .int (nI wc)])), (w1, .inl (cI, 12, .inl f)), (v0, .inr (6, [.ref v1, .int (nI vc)])), (v1, .inl (cI, 12, .inl g))] (kT cI cC cJ cZ cQ))) (kQv D [(w0, .inr (6, [.ref w1, .int (nI vc)])), (w1, .inl (cI, 12, .inl g)), (v0, .inr (6, [.ref v1, .int (nI vc)])), (v1, .inl (cI, 12, .inl g))] (va_A [(w0, .inr (6, [.ref w1, .int (nI wc)])), (w1, .inl (cI, 12, .inl f)), (v0, .inr (6, [.ref v1, .int (nI vc)])), (v1, .inl (cI, 12, .inl g))] sz)) 0 0 (va_A [(w0, .inr (6, [.ref w1, .int (nI wc)])), (w1, .inl (cI, 12, .inl f)), (v0, .inr (6, [.ref v1, .int (nI vc)])), (v1, .inl (cI, 12, .inl g))] sz) := by
  refine k_met (Qf := kQv D [(w0, .inr (6, [.ref w1, .int (nI vc)])), (w1, .inl (cI, 12, .inl g)), (v0, .inr (6, [.ref v1, .int (nI vc)])), (v1, .inl (cI, 12, .inl g))]) (cc := cX6_copyFrom) (maxL := 2) (ret := none) (own := RX6) (by decide) rfl (Nat.le_of_ble_eq_true rfl) rfl ?_
  intro p e s m args below meth c ls A H locs hx hb hr hts hown hlocks hml hin hsz hP hK hD hA hS hN hl
  have hl : lv_has ls 2 [(0, .ref w0), (1, .ref v0)] := hl
  refine lv_aload_n hx hb dX6_copyFrom_0 rfl (lv_at hl 1 rfl) ?_
  refine va_get (D := D) (ci := 6) (v := .ref v1) (C := RX6) (T := TX6) (N := 2) hx hb hts inX6_copyFrom_6 hown hK hP 2 rfl rfl 0 (by decide) (hts (.fieldLink RX6 9 "WeighingConverter$Weights" "sizes" "[I") (List.mem_of_getElem? (i := 1) rfl)) (fun _ h9 => h9) rfl dX6_copyFrom_1 ?_
  refine lv_iconst (v := 0) hx hb dX6_copyFrom_4 (by decide) ?_
  refine lv_aload_n hx hb dX6_copyFrom_5 rfl (lv_at hl 0 rfl) ?_
  refine va_get (D := D) (ci := 6) (v := .ref w1) (C := RX6) (T := TX6) (N := 2) hx hb hts inX6_copyFrom_6 hown hK hP 0 rfl rfl 0 (by decide) (hts (.fieldLink RX6 9 "WeighingConverter$Weights" "sizes" "[I") (List.mem_of_getElem? (i := 1) rfl)) (fun _ h9 => h9) rfl dX6_copyFrom_6 ?_
  refine lv_iconst (v := 0) hx hb dX6_copyFrom_9 (by decide) ?_
  refine lv_bipush (v := 12) hx hb dX6_copyFrom_10 (by decide) ?_
  refine va_copyi hx hb (hml.trans hl.1.symm) hown (hts (.methodLink RX6 22 arraycopyName) (List.mem_of_getElem? (i := 2) rfl)) (hts (.native arraycopyName) (List.mem_of_getElem? (i := 3) rfl)) (hts (.static arraycopyName) (List.mem_of_getElem? (i := 4) rfl)) (hts (.initialized "java/lang/System") (List.mem_of_getElem? (i := 5) rfl)) hK hP hD hS 3 1 0 0 rfl rfl rfl rfl rfl (by decide) (by decide) (by decide) (by decide) (by decide) (fun _ _ => rfl) (Nat.le_of_ble_eq_true rfl) (Nat.le_of_ble_eq_true rfl) dX6_copyFrom_12 (fun H locs hP hD hS => ?_)
  have hP : va_P D vwCl [(w0, .inr (6, [.ref w1, .int (nI wc)])), (w1, .inl (cI, 12, .inl (va_cpy g f (0 : Int32).toNatClampNeg (0 : Int32).toNatClampNeg (12 : Int32).toNatClampNeg))), (v0, .inr (6, [.ref v1, .int (nI vc)])), (v1, .inl (cI, 12, .inl g))] H := hP
  have hD : va_D A [(w0, .inr (6, [.ref w1, .int (nI wc)])), (w1, .inl (cI, 12, .inl (va_cpy g f (0 : Int32).toNatClampNeg (0 : Int32).toNatClampNeg (12 : Int32).toNatClampNeg))), (v0, .inr (6, [.ref v1, .int (nI vc)])), (v1, .inl (cI, 12, .inl g))] := hD
  have hP := k_arr hP 1 rfl (g := g) (fun j hj => sb_cpy0 hj)
  have hD := hD.set (p := 1) (e := .inl (cI, 12, .inl g)) rfl
  have hP : va_P D vwCl [(w0, .inr (6, [.ref w1, .int (nI wc)])), (w1, .inl (cI, 12, .inl g)), (v0, .inr (6, [.ref v1, .int (nI vc)])), (v1, .inl (cI, 12, .inl g))] H := hP
  have hD : va_D A [(w0, .inr (6, [.ref w1, .int (nI wc)])), (w1, .inl (cI, 12, .inl g)), (v0, .inr (6, [.ref v1, .int (nI vc)])), (v1, .inl (cI, 12, .inl g))] := hD
  refine lv_aload_n hx hb dX6_copyFrom_15 rfl (lv_at hl 0 rfl) ?_
  refine lv_aload_n hx hb dX6_copyFrom_16 rfl (lv_at hl 1 rfl) ?_
  refine va_get (D := D) (ci := 6) (v := .int (nI vc)) (C := RX6) (T := TX6) (N := 2) hx hb hts inX6_copyFrom_6 hown hK hP 2 rfl rfl 1 (by decide) (hts (.fieldLink RX6 18 "WeighingConverter$Weights" "count" "I") (List.mem_of_getElem? (i := 6) rfl)) (fun _ h9 => h9) rfl dX6_copyFrom_17 ?_
  refine va_put (D := D) (ci := 6) (v := .int (nI vc)) (ty := .int) (C := RX6) (T := TX6) (N := 2) hx hb hts inX6_copyFrom_6 tyX6 tyX6_ok nmX6 hown hK hP hD hS 0 rfl rfl 1 (by decide) (hts (.fieldLink RX6 18 "WeighingConverter$Weights" "count" "I") (List.mem_of_getElem? (i := 6) rfl)) (fun _ h9 => h9) rfl (by decide +kernel) rfl rfl (Nat.le_of_ble_eq_true rfl) dX6_copyFrom_20 (fun H locs hP hD hS => ?_)
  have hP : va_P D vwCl [(w0, .inr (6, [.ref w1, .int (nI vc)])), (w1, .inl (cI, 12, .inl g)), (v0, .inr (6, [.ref v1, .int (nI vc)])), (v1, .inl (cI, 12, .inl g))] H := hP
  have hD : va_D A [(w0, .inr (6, [.ref w1, .int (nI vc)])), (w1, .inl (cI, 12, .inl g)), (v0, .inr (6, [.ref v1, .int (nI vc)])), (v1, .inl (cI, 12, .inl g))] := hD
  have hP9 := hP.sub (ws' := [(w0, .inr (6, [.ref w1, .int (nI vc)])), (w1, .inl (cI, 12, .inl g)), (v0, .inr (6, [.ref v1, .int (nI vc)])), (v1, .inl (cI, 12, .inl g))]) [0, 1, 2, 3] rfl
  have hD9 := hD.sub (ws' := [(w0, .inr (6, [.ref w1, .int (nI vc)])), (w1, .inl (cI, 12, .inl g)), (v0, .inr (6, [.ref v1, .int (nI vc)])), (v1, .inl (cI, 12, .inl g))]) [0, 1, 2, 3] (by decide) rfl
  exact kr_v hx hb hr hlocks hP9 hD9 hS dX6_copyFrom_23

theorem inX0_errorOf_0 : ∀ w ∈ wsX00, w ∈ wsX0_errorOf := fun _ h => List.mem_cons_of_mem _ (List.mem_append_right _ h)
abbrev rmkX0_errorOf : Room := { frames := 0, cells := 0, slots := 0, locals := 0 }
set_option maxHeartbeats 4000000 in
set_option maxRecDepth 100000 in
theorem kX0_errorOf (l : Launch) (D : va_G) (sz : Nat) (cI : ClassId) (cC : ClassId) (cJ : ClassId) (cZ : ClassId) (cQ : ClassId) (g0 : Nat) (g1 : Nat) (g2 : Nat) (g3 : Nat) (lc : Nat) (fv : Nat → Int32) (fk : Nat → Int32) (fc : Nat → Int32) (i : Nat) (hi : i < 8) : Met l yX0_errorOf wsX0_errorOf rmkX0_errorOf (va_Pc [.ref g0, .int (nI i)] (kPre D sz [(g0, .inr (0, [.ref g1, .ref g2, .ref g3, .int (nI lc)])), (g1, .inl (cI, 8, .inl fv)), (g2, .inl (cI, 8, .inl fk)), (g3, .inl (cI, 8, .inl fc))] (kT cI cC cJ cZ cQ))) (kQi D (16 * fc i - fv i) [(g0, .inr (0, [.ref g1, .ref g2, .ref g3, .int (nI lc)])), (g1, .inl (cI, 8, .inl fv)), (g2, .inl (cI, 8, .inl fk)), (g3, .inl (cI, 8, .inl fc))] (va_A [(g0, .inr (0, [.ref g1, .ref g2, .ref g3, .int (nI lc)])), (g1, .inl (cI, 8, .inl fv)), (g2, .inl (cI, 8, .inl fk)), (g3, .inl (cI, 8, .inl fc))] sz)) 0 0 (va_A [(g0, .inr (0, [.ref g1, .ref g2, .ref g3, .int (nI lc)])), (g1, .inl (cI, 8, .inl fv)), (g2, .inl (cI, 8, .inl fk)), (g3, .inl (cI, 8, .inl fc))] sz) := by
  refine k_met (Qf := kQi D (16 * fc i - fv i) [(g0, .inr (0, [.ref g1, .ref g2, .ref g3, .int (nI lc)])), (g1, .inl (cI, 8, .inl fv)), (g2, .inl (cI, 8, .inl fk)), (g3, .inl (cI, 8, .inl fc))]) (cc := cX0_errorOf) (maxL := 2) (ret := (some .int)) (own := RX0) (by decide) rfl (Nat.le_of_ble_eq_true rfl) rfl ?_
  intro p e s m args below meth c ls A H locs hx hb hr hts hown hlocks hml hin hsz hP hK hD hA hS hN hl
  have hl : lv_has ls 2 [(0, .ref g0), (1, .int (nI i))] := hl
  refine lv_bipush (v := 16) hx hb dX0_errorOf_0 (by decide) ?_
  refine lv_aload_n hx hb dX0_errorOf_2 rfl (lv_at hl 0 rfl) ?_
  refine va_get (D := D) (ci := 0) (v := .ref g3) (C := RX0) (T := TX0) (N := 4) hx hb hts inX0_errorOf_0 hown hK hP 0 rfl rfl 2 (by decide) (hts (.fieldLink RX0 18 "WeighingConverter$Log" "codes" "[I") (List.mem_of_getElem? (i := 1) rfl)) (fun _ h9 => h9) rfl dX0_errorOf_3 ?_
  refine lv_iload_n hx hb dX0_errorOf_6 rfl (lv_at hl 1 rfl) ?_
  refine k_iald (k := i) hx hb hK hP 3 0 rfl rfl (by omega) (by decide) dX0_errorOf_7 ?_
  refine lv_imul hx hb dX0_errorOf_8 ?_
  refine lv_aload_n hx hb dX0_errorOf_9 rfl (lv_at hl 0 rfl) ?_
  refine va_get (D := D) (ci := 0) (v := .ref g1) (C := RX0) (T := TX0) (N := 4) hx hb hts inX0_errorOf_0 hown hK hP 0 rfl rfl 0 (by decide) (hts (.fieldLink RX0 9 "WeighingConverter$Log" "voltages" "[I") (List.mem_of_getElem? (i := 2) rfl)) (fun _ h9 => h9) rfl dX0_errorOf_10 ?_
  refine lv_iload_n hx hb dX0_errorOf_13 rfl (lv_at hl 1 rfl) ?_
  refine k_iald (k := i) hx hb hK hP 1 0 rfl rfl (by omega) (by decide) dX0_errorOf_14 ?_
  refine lv_isub hx hb dX0_errorOf_15 ?_
  have hP9 := hP.sub (ws' := [(g0, .inr (0, [.ref g1, .ref g2, .ref g3, .int (nI lc)])), (g1, .inl (cI, 8, .inl fv)), (g2, .inl (cI, 8, .inl fk)), (g3, .inl (cI, 8, .inl fc))]) [0, 1, 2, 3] rfl
  have hD9 := hD.sub (ws' := [(g0, .inr (0, [.ref g1, .ref g2, .ref g3, .int (nI lc)])), (g1, .inl (cI, 8, .inl fv)), (g2, .inl (cI, 8, .inl fk)), (g3, .inl (cI, 8, .inl fc))]) [0, 1, 2, 3] (by decide) rfl
  exact kr_i (v := (16 * (fc i)) - (fv i)) hx hb hr hlocks hP9 hD9 hS rfl dX0_errorOf_16

theorem inX0_errorSum_0 : ∀ w ∈ wsX00, w ∈ wsX0_errorSum := fun _ h => List.mem_cons_of_mem _ (List.mem_append_right _ h)
abbrev rmkX0_errorSum : Room := { frames := 1, cells := 0, slots := 0, locals := 21 }
set_option maxHeartbeats 4000000 in
set_option maxRecDepth 100000 in
theorem kX0_errorSum (l : Launch) (D : va_G) (sz : Nat) (cI : ClassId) (cC : ClassId) (cJ : ClassId) (cZ : ClassId) (cQ : ClassId) (g0 : Nat) (g1 : Nat) (g2 : Nat) (g3 : Nat) (lc : Nat) (fv : Nat → Int32) (fk : Nat → Int32) (fc : Nat → Int32) (hlc : lc ≤ 8) : Met l yX0_errorSum wsX0_errorSum rmkX0_errorSum (va_Pc [.ref g0] (kPre D sz [(g0, .inr (0, [.ref g1, .ref g2, .ref g3, .int (nI lc)])), (g1, .inl (cI, 8, .inl fv)), (g2, .inl (cI, 8, .inl fk)), (g3, .inl (cI, 8, .inl fc))] (kT cI cC cJ cZ cQ))) (kQi D (errS fv fc lc) [(g0, .inr (0, [.ref g1, .ref g2, .ref g3, .int (nI lc)])), (g1, .inl (cI, 8, .inl fv)), (g2, .inl (cI, 8, .inl fk)), (g3, .inl (cI, 8, .inl fc))] (va_A [(g0, .inr (0, [.ref g1, .ref g2, .ref g3, .int (nI lc)])), (g1, .inl (cI, 8, .inl fv)), (g2, .inl (cI, 8, .inl fk)), (g3, .inl (cI, 8, .inl fc))] sz)) 0 0 (va_A [(g0, .inr (0, [.ref g1, .ref g2, .ref g3, .int (nI lc)])), (g1, .inl (cI, 8, .inl fv)), (g2, .inl (cI, 8, .inl fk)), (g3, .inl (cI, 8, .inl fc))] sz) := by
  refine k_met (Qf := kQi D (errS fv fc lc) [(g0, .inr (0, [.ref g1, .ref g2, .ref g3, .int (nI lc)])), (g1, .inl (cI, 8, .inl fv)), (g2, .inl (cI, 8, .inl fk)), (g3, .inl (cI, 8, .inl fc))]) (cc := cX0_errorSum) (maxL := 3) (ret := (some .int)) (own := RX0) (by decide) rfl (Nat.le_of_ble_eq_true rfl) rfl ?_
  intro p e s m args below meth c ls A H locs hx hb hr hts hown hlocks hml hin hsz hP hK hD hA hS hN hl
  have hl : lv_has ls 3 [(0, .ref g0)] := hl
  refine lv_iconst (v := 0) hx hb dX0_errorSum_0 (by decide) ?_
  refine lv_istore_n (lv' := [(1, .int 0), (0, .ref g0)]) hx hb dX0_errorSum_1 rfl hl (by decide) rfl (fun ls hl => ?_)
  refine lv_iconst (v := 0) hx hb dX0_errorSum_2 (by decide) ?_
  refine lv_istore_n (lv' := [(2, .int 0), (1, .int 0), (0, .ref g0)]) hx hb dX0_errorSum_3 rfl hl (by decide) rfl (fun ls hl => ?_)
  have J4 : ∀ (fuel : Nat) (k : Nat) (hk : k ≤ lc) (hm : lc - k < fuel) (H : Heap) (locs : List Loc) (hP : va_P D vwCl [(g0, .inr (0, [.ref g1, .ref g2, .ref g3, .int (nI lc)])), (g1, .inl (cI, 8, .inl fv)), (g2, .inl (cI, 8, .inl fk)), (g3, .inl (cI, 8, .inl fc))] H) (hD : va_D A [(g0, .inr (0, [.ref g1, .ref g2, .ref g3, .int (nI lc)])), (g1, .inl (cI, 8, .inl fv)), (g2, .inl (cI, 8, .inl fk)), (g3, .inl (cI, 8, .inl fc))]) (hS : va_S A s.heap H locs) (ls : Array Slot) (hl : lv_has ls 3 [(2, .int (nI k)), (1, .int (errS fv fc k)), (0, .ref g0)]), W p l e rmkX0_errorSum s m args below meth c H locs 0 0 (MQ below (kQi D (errS fv fc lc) [(g0, .inr (0, [.ref g1, .ref g2, .ref g3, .int (nI lc)])), (g1, .inl (cI, 8, .inl fv)), (g2, .inl (cI, 8, .inl fk)), (g3, .inl (cI, 8, .inl fc))] A) args s 0 0 A) (F0 m 4 ls []) := by
    intro fuel
    induction fuel with
    | zero => intro k hk hm; exact absurd hm (Nat.not_lt_zero _)
    | succ fuel ih4 =>
      intro k hk hm H locs hP hD hS ls hl
      refine lv_iload_n hx hb dX0_errorSum_4 rfl (lv_at hl 0 rfl) ?_
      refine lv_aload_n hx hb dX0_errorSum_5 rfl (lv_at hl 2 rfl) ?_
      refine va_get (D := D) (ci := 0) (v := .int (nI lc)) (C := RX0) (T := TX0) (N := 4) hx hb hts inX0_errorSum_0 hown hK hP 0 rfl rfl 3 (by decide) (hts (.fieldLink RX0 21 "WeighingConverter$Log" "count" "I") (List.mem_of_getElem? (i := 1) rfl)) (fun _ h9 => h9) rfl dX0_errorSum_6 ?_
      refine lv_icmp_ge (tgt := 26) hx hb dX0_errorSum_9 (by decide) (fun c_9 => ?_) (fun c_9 => ?_)
      · have c_9 : lc ≤ k := (nI_leI (a := lc) (b := k) (by omega) (by omega)).mp c_9
        refine lv_iload_n hx hb dX0_errorSum_26 rfl (lv_at hl 1 rfl) ?_
        have hP9 := hP.sub (ws' := [(g0, .inr (0, [.ref g1, .ref g2, .ref g3, .int (nI lc)])), (g1, .inl (cI, 8, .inl fv)), (g2, .inl (cI, 8, .inl fk)), (g3, .inl (cI, 8, .inl fc))]) [0, 1, 2, 3] rfl
        have hD9 := hD.sub (ws' := [(g0, .inr (0, [.ref g1, .ref g2, .ref g3, .int (nI lc)])), (g1, .inl (cI, 8, .inl fv)), (g2, .inl (cI, 8, .inl fk)), (g3, .inl (cI, 8, .inl fc))]) [0, 1, 2, 3] (by decide) rfl
        exact kr_i (v := errS fv fc k) hx hb hr hlocks hP9 hD9 hS (by rw [show k = lc from by omega]) dX0_errorSum_27
      · have c_9 : ¬ lc ≤ k := fun h => c_9 ((nI_leI (a := lc) (b := k) (by omega) (by omega)).mpr h)
        refine lv_iload_n hx hb dX0_errorSum_12 rfl (lv_at hl 1 rfl) ?_
        refine lv_aload_n hx hb dX0_errorSum_13 rfl (lv_at hl 2 rfl) ?_
        refine lv_iload_n hx hb dX0_errorSum_14 rfl (lv_at hl 0 rfl) ?_
        refine kv_i (As := [.int (nI k)]) (rest := [.int (errS fv fc k)]) (wr := []) ⟨hx, hb, hml, hown, hts⟩ (kX0_errorOf l D H.size cI cC cJ cZ cQ g0 g1 g2 g3 lc fv fk fc k (by first | assumption | omega)) (cwV 1 hts gX0_errorSum_X0_errorOf rfl rfl rfl (by decide +kernel) ⟨Nat.le_of_ble_eq_true rfl, Nat.le_of_ble_eq_true rfl⟩) hP hD hK hS hA hN [0, 1, 2, 3] [] rfl rfl (by decide) (by decide) (by decide) 0 0 rfl rfl rfl rfl hl.1 rfl (Nat.le_of_ble_eq_true rfl) dX0_errorSum_15 ⟨Nat.zero_le _, Nat.zero_le _⟩ (fun H locs hP hD hS => ?_)
        have hP : va_P D vwCl [(g0, .inr (0, [.ref g1, .ref g2, .ref g3, .int (nI lc)])), (g1, .inl (cI, 8, .inl fv)), (g2, .inl (cI, 8, .inl fk)), (g3, .inl (cI, 8, .inl fc))] H := hP
        have hD : va_D A [(g0, .inr (0, [.ref g1, .ref g2, .ref g3, .int (nI lc)])), (g1, .inl (cI, 8, .inl fv)), (g2, .inl (cI, 8, .inl fk)), (g3, .inl (cI, 8, .inl fc))] := hD
        refine lv_iadd hx hb dX0_errorSum_18 ?_
        refine lv_istore_n (lv' := [(1, .int ((errS fv fc k) + (16 * fc k - fv k))), (2, .int (nI k)), (0, .ref g0)]) hx hb dX0_errorSum_19 rfl hl (by decide) rfl (fun ls hl => ?_)
        refine lv_iinc (v := nI (k + 1)) (lv' := [(2, .int (nI (k + 1))), (1, .int ((errS fv fc k) + (16 * fc k - fv k))), (0, .ref g0)]) hx hb dX0_errorSum_20 hl (k := 1) rfl (by exact k_inc k) (by decide) rfl (fun ls hl => ?_)
        refine lv_goto (tgt := 4) hx hb dX0_errorSum_23 (by decide) ?_
        exact ih4 (k + 1) (by first | assumption | omega) (by omega) _ _ (hP.sub [0, 1, 2, 3] rfl) (hD.sub [0, 1, 2, 3] (by decide) rfl) hS _ (lv_sub hl [0, 1, 2] rfl)
  exact J4 (lc - 0 + 1) 0 (by first | assumption | omega) (Nat.lt_succ_self _) _ _ (hP.sub [0, 1, 2, 3] rfl) (hD.sub [0, 1, 2, 3] (by decide) rfl) hS _ (lv_sub hl [0, 1, 2] rfl)

theorem inX0_add_0 : ∀ w ∈ wsX00, w ∈ wsX0_add := fun _ h => List.mem_cons_of_mem _ (List.mem_append_right _ h)
abbrev rmkX0_add : Room := { frames := 1, cells := 0, slots := 0, locals := 30 }
set_option maxHeartbeats 4000000 in
set_option maxRecDepth 100000 in
theorem kX0_add (l : Launch) (D : va_G) (sz : Nat) (cI : ClassId) (cC : ClassId) (cJ : ClassId) (cZ : ClassId) (cQ : ClassId) (g0 : Nat) (g1 : Nat) (g2 : Nat) (g3 : Nat) (lc : Nat) (fv : Nat → Int32) (fk : Nat → Int32) (fc : Nat → Int32) (a : Int32) (b : Int32) (d : Int32) (hlc : lc ≤ 8) : Met l yX0_add wsX0_add rmkX0_add (va_Pc [.ref g0, .int a, .int b, .int d] (kPre D sz [(g0, .inr (0, [.ref g1, .ref g2, .ref g3, .int (nI lc)])), (g1, .inl (cI, 8, .inl fv)), (g2, .inl (cI, 8, .inl fk)), (g3, .inl (cI, 8, .inl fc))] (kT cI cC cJ cZ cQ))) (kQv D [(g0, .inr (0, [.ref g1, .ref g2, .ref g3, .int (nI (min (lc + 1) 8))])), (g1, .inl (cI, 8, .inl (shF fv a))), (g2, .inl (cI, 8, .inl (shF fk b))), (g3, .inl (cI, 8, .inl (shF fc d)))] (va_A [(g0, .inr (0, [.ref g1, .ref g2, .ref g3, .int (nI lc)])), (g1, .inl (cI, 8, .inl fv)), (g2, .inl (cI, 8, .inl fk)), (g3, .inl (cI, 8, .inl fc))] sz)) 0 0 (va_A [(g0, .inr (0, [.ref g1, .ref g2, .ref g3, .int (nI lc)])), (g1, .inl (cI, 8, .inl fv)), (g2, .inl (cI, 8, .inl fk)), (g3, .inl (cI, 8, .inl fc))] sz) := by
  refine k_met (Qf := kQv D [(g0, .inr (0, [.ref g1, .ref g2, .ref g3, .int (nI (min (lc + 1) 8))])), (g1, .inl (cI, 8, .inl (shF fv a))), (g2, .inl (cI, 8, .inl (shF fk b))), (g3, .inl (cI, 8, .inl (shF fc d)))]) (cc := cX0_add) (maxL := 5) (ret := none) (own := RX0) (by decide) rfl (Nat.le_of_ble_eq_true rfl) rfl ?_
  intro p e s m args below meth c ls A H locs hx hb hr hts hown hlocks hml hin hsz hP hK hD hA hS hN hl
  have hl : lv_has ls 5 [(0, .ref g0), (1, .int a), (2, .int b), (3, .int d)] := hl
  refine lv_bipush (v := 7) hx hb dX0_add_0 (by decide) ?_
  refine lv_istore (lv' := [(4, .int 7), (0, .ref g0), (1, .int a), (2, .int b), (3, .int d)]) hx hb dX0_add_2 hl (by decide) rfl (fun ls hl => ?_)
  have J4 : ∀ (fuel : Nat) (k : Nat) (h1 : Nat → Int32) (h2 : Nat → Int32) (h3 : Nat → Int32) (hk : k ≤ 7) (q1 : ∀ j, h1 j = if k < j ∧ j ≤ 7 then fv (j - 1) else fv j) (q2 : ∀ j, h2 j = if k < j ∧ j ≤ 7 then fk (j - 1) else fk j) (q3 : ∀ j, h3 j = if k < j ∧ j ≤ 7 then fc (j - 1) else fc j) (hm : k < fuel) (H : Heap) (locs : List Loc) (hP : va_P D vwCl [(g0, .inr (0, [.ref g1, .ref g2, .ref g3, .int (nI lc)])), (g1, .inl (cI, 8, .inl h1)), (g2, .inl (cI, 8, .inl h2)), (g3, .inl (cI, 8, .inl h3))] H) (hD : va_D A [(g0, .inr (0, [.ref g1, .ref g2, .ref g3, .int (nI lc)])), (g1, .inl (cI, 8, .inl h1)), (g2, .inl (cI, 8, .inl h2)), (g3, .inl (cI, 8, .inl h3))]) (hS : va_S A s.heap H locs) (ls : Array Slot) (hl : lv_has ls 5 [(4, .int (nI k)), (0, .ref g0), (1, .int a), (2, .int b), (3, .int d)]), W p l e rmkX0_add s m args below meth c H locs 0 0 (MQ below (kQv D [(g0, .inr (0, [.ref g1, .ref g2, .ref g3, .int (nI (min (lc + 1) 8))])), (g1, .inl (cI, 8, .inl (shF fv a))), (g2, .inl (cI, 8, .inl (shF fk b))), (g3, .inl (cI, 8, .inl (shF fc d)))] A) args s 0 0 A) (F0 m 4 ls []) := by
    intro fuel
    induction fuel with
    | zero => intro k h1 h2 h3 hk q1 q2 q3 hm; exact absurd hm (Nat.not_lt_zero _)
    | succ fuel ih4 =>
      intro k h1 h2 h3 hk q1 q2 q3 hm H locs hP hD hS ls hl
      refine lv_iload hx hb dX0_add_4 (lv_at hl 0 rfl) ?_
      refine lv_if_le (tgt := 63) hx hb dX0_add_6 (by decide) (fun c_6 => ?_) (fun c_6 => ?_)
      · have c_6 : k ≤ 0 := (nI_leI (a := k) (b := 0) (by omega) (by omega)).mp c_6
        refine lv_aload_n hx hb dX0_add_63 rfl (lv_at hl 1 rfl) ?_
        refine va_get (D := D) (ci := 0) (v := .ref g1) (C := RX0) (T := TX0) (N := 4) hx hb hts inX0_add_0 hown hK hP 0 rfl rfl 0 (by decide) (hts (.fieldLink RX0 9 "WeighingConverter$Log" "voltages" "[I") (List.mem_of_getElem? (i := 1) rfl)) (fun _ h9 => h9) rfl dX0_add_64 ?_
        refine lv_iconst (v := 0) hx hb dX0_add_67 (by decide) ?_
        refine lv_iload_n hx hb dX0_add_68 rfl (lv_at hl 2 rfl) ?_
        refine k_iast (k := 0) hx hb hK hP hD hS 1 0 rfl rfl (by omega) (by decide) dX0_add_69 (fun H locs hP hD hS => ?_)
        have hP : va_P D vwCl [(g0, .inr (0, [.ref g1, .ref g2, .ref g3, .int (nI lc)])), (g1, .inl (cI, 8, .inl (upd h1 0 a))), (g2, .inl (cI, 8, .inl h2)), (g3, .inl (cI, 8, .inl h3))] H := hP
        have hD : va_D A [(g0, .inr (0, [.ref g1, .ref g2, .ref g3, .int (nI lc)])), (g1, .inl (cI, 8, .inl (upd h1 0 a))), (g2, .inl (cI, 8, .inl h2)), (g3, .inl (cI, 8, .inl h3))] := hD
        refine lv_aload_n hx hb dX0_add_70 rfl (lv_at hl 1 rfl) ?_
        refine va_get (D := D) (ci := 0) (v := .ref g2) (C := RX0) (T := TX0) (N := 4) hx hb hts inX0_add_0 hown hK hP 0 rfl rfl 1 (by decide) (hts (.fieldLink RX0 15 "WeighingConverter$Log" "keptMasks" "[I") (List.mem_of_getElem? (i := 2) rfl)) (fun _ h9 => h9) rfl dX0_add_71 ?_
        refine lv_iconst (v := 0) hx hb dX0_add_74 (by decide) ?_
        refine lv_iload_n hx hb dX0_add_75 rfl (lv_at hl 3 rfl) ?_
        refine k_iast (k := 0) hx hb hK hP hD hS 2 0 rfl rfl (by omega) (by decide) dX0_add_76 (fun H locs hP hD hS => ?_)
        have hP : va_P D vwCl [(g0, .inr (0, [.ref g1, .ref g2, .ref g3, .int (nI lc)])), (g1, .inl (cI, 8, .inl (upd h1 0 a))), (g2, .inl (cI, 8, .inl (upd h2 0 b))), (g3, .inl (cI, 8, .inl h3))] H := hP
        have hD : va_D A [(g0, .inr (0, [.ref g1, .ref g2, .ref g3, .int (nI lc)])), (g1, .inl (cI, 8, .inl (upd h1 0 a))), (g2, .inl (cI, 8, .inl (upd h2 0 b))), (g3, .inl (cI, 8, .inl h3))] := hD
        refine lv_aload_n hx hb dX0_add_77 rfl (lv_at hl 1 rfl) ?_
        refine va_get (D := D) (ci := 0) (v := .ref g3) (C := RX0) (T := TX0) (N := 4) hx hb hts inX0_add_0 hown hK hP 0 rfl rfl 2 (by decide) (hts (.fieldLink RX0 18 "WeighingConverter$Log" "codes" "[I") (List.mem_of_getElem? (i := 3) rfl)) (fun _ h9 => h9) rfl dX0_add_78 ?_
        refine lv_iconst (v := 0) hx hb dX0_add_81 (by decide) ?_
        refine lv_iload_n hx hb dX0_add_82 rfl (lv_at hl 4 rfl) ?_
        refine k_iast (k := 0) hx hb hK hP hD hS 3 0 rfl rfl (by omega) (by decide) dX0_add_83 (fun H locs hP hD hS => ?_)
        have hP : va_P D vwCl [(g0, .inr (0, [.ref g1, .ref g2, .ref g3, .int (nI lc)])), (g1, .inl (cI, 8, .inl (upd h1 0 a))), (g2, .inl (cI, 8, .inl (upd h2 0 b))), (g3, .inl (cI, 8, .inl (upd h3 0 d)))] H := hP
        have hD : va_D A [(g0, .inr (0, [.ref g1, .ref g2, .ref g3, .int (nI lc)])), (g1, .inl (cI, 8, .inl (upd h1 0 a))), (g2, .inl (cI, 8, .inl (upd h2 0 b))), (g3, .inl (cI, 8, .inl (upd h3 0 d)))] := hD
        refine lv_aload_n hx hb dX0_add_84 rfl (lv_at hl 1 rfl) ?_
        refine lv_aload_n hx hb dX0_add_85 rfl (lv_at hl 1 rfl) ?_
        refine va_get (D := D) (ci := 0) (v := .int (nI lc)) (C := RX0) (T := TX0) (N := 4) hx hb hts inX0_add_0 hown hK hP 0 rfl rfl 3 (by decide) (hts (.fieldLink RX0 21 "WeighingConverter$Log" "count" "I") (List.mem_of_getElem? (i := 4) rfl)) (fun _ h9 => h9) rfl dX0_add_86 ?_
        refine lv_iconst (v := 1) hx hb dX0_add_89 (by decide) ?_
        refine lv_iadd hx hb dX0_add_90 ?_
        refine k_topi (y := nI (lc + 1)) (nI_add lc 1) ?_
        refine lv_bipush (v := 8) hx hb dX0_add_91 (by decide) ?_
        refine va_mmin hx hb (hml.trans hl.1.symm) hown (hts (.methodLink RX0 31 Lib.Math.min.name) (List.mem_of_getElem? (i := 5) rfl)) (hts (.static Lib.Math.min.name) (List.mem_of_getElem? (i := 6) rfl)) (hts (.initialized "java/lang/Math") (List.mem_of_getElem? (i := 7) rfl)) (hts (.code Lib.Math.min.name Lib.Math.min.code 2 (some .int)) (List.mem_of_getElem? (i := 8) rfl)) (Nat.le_of_ble_eq_true rfl) (Nat.le_of_ble_eq_true rfl) (Nat.zero_le _) (Nat.zero_le _) dX0_add_93 ?_
        refine k_topi (y := nI (min (lc + 1) 8)) (k_min (a := (lc + 1)) (b := 8) (by omega) (by omega)) ?_
        refine va_put (D := D) (ci := 0) (v := .int (nI (min (lc + 1) 8))) (ty := .int) (C := RX0) (T := TX0) (N := 4) hx hb hts inX0_add_0 tyX0 tyX0_ok nmX0 hown hK hP hD hS 0 rfl rfl 3 (by decide) (hts (.fieldLink RX0 21 "WeighingConverter$Log" "count" "I") (List.mem_of_getElem? (i := 4) rfl)) (fun _ h9 => h9) rfl (by decide +kernel) rfl rfl (Nat.le_of_ble_eq_true rfl) dX0_add_96 (fun H locs hP hD hS => ?_)
        have hP : va_P D vwCl [(g0, .inr (0, [.ref g1, .ref g2, .ref g3, .int (nI (min (lc + 1) 8))])), (g1, .inl (cI, 8, .inl (upd h1 0 a))), (g2, .inl (cI, 8, .inl (upd h2 0 b))), (g3, .inl (cI, 8, .inl (upd h3 0 d)))] H := hP
        have hD : va_D A [(g0, .inr (0, [.ref g1, .ref g2, .ref g3, .int (nI (min (lc + 1) 8))])), (g1, .inl (cI, 8, .inl (upd h1 0 a))), (g2, .inl (cI, 8, .inl (upd h2 0 b))), (g3, .inl (cI, 8, .inl (upd h3 0 d)))] := hD
        have hP := k_arr hP 1 rfl (g := shF fv a) (fun j hj => by simp only [shF, upd, q1]; (repeat' split) <;> first | rfl | omega | (congr 1; omega))
        have hD := hD.set (p := 1) (e := .inl (cI, 8, .inl (shF fv a))) rfl
        have hP : va_P D vwCl [(g0, .inr (0, [.ref g1, .ref g2, .ref g3, .int (nI (min (lc + 1) 8))])), (g1, .inl (cI, 8, .inl (shF fv a))), (g2, .inl (cI, 8, .inl (upd h2 0 b))), (g3, .inl (cI, 8, .inl (upd h3 0 d)))] H := hP
        have hD : va_D A [(g0, .inr (0, [.ref g1, .ref g2, .ref g3, .int (nI (min (lc + 1) 8))])), (g1, .inl (cI, 8, .inl (shF fv a))), (g2, .inl (cI, 8, .inl (upd h2 0 b))), (g3, .inl (cI, 8, .inl (upd h3 0 d)))] := hD
        have hP := k_arr hP 2 rfl (g := shF fk b) (fun j hj => by simp only [shF, upd, q2]; (repeat' split) <;> first | rfl | omega | (congr 1; omega))
        have hD := hD.set (p := 2) (e := .inl (cI, 8, .inl (shF fk b))) rfl
        have hP : va_P D vwCl [(g0, .inr (0, [.ref g1, .ref g2, .ref g3, .int (nI (min (lc + 1) 8))])), (g1, .inl (cI, 8, .inl (shF fv a))), (g2, .inl (cI, 8, .inl (shF fk b))), (g3, .inl (cI, 8, .inl (upd h3 0 d)))] H := hP
        have hD : va_D A [(g0, .inr (0, [.ref g1, .ref g2, .ref g3, .int (nI (min (lc + 1) 8))])), (g1, .inl (cI, 8, .inl (shF fv a))), (g2, .inl (cI, 8, .inl (shF fk b))), (g3, .inl (cI, 8, .inl (upd h3 0 d)))] := hD
        have hP := k_arr hP 3 rfl (g := shF fc d) (fun j hj => by simp only [shF, upd, q3]; (repeat' split) <;> first | rfl | omega | (congr 1; omega))
        have hD := hD.set (p := 3) (e := .inl (cI, 8, .inl (shF fc d))) rfl
        have hP : va_P D vwCl [(g0, .inr (0, [.ref g1, .ref g2, .ref g3, .int (nI (min (lc + 1) 8))])), (g1, .inl (cI, 8, .inl (shF fv a))), (g2, .inl (cI, 8, .inl (shF fk b))), (g3, .inl (cI, 8, .inl (shF fc d)))] H := hP
        have hD : va_D A [(g0, .inr (0, [.ref g1, .ref g2, .ref g3, .int (nI (min (lc + 1) 8))])), (g1, .inl (cI, 8, .inl (shF fv a))), (g2, .inl (cI, 8, .inl (shF fk b))), (g3, .inl (cI, 8, .inl (shF fc d)))] := hD
        have hP9 := hP.sub (ws' := [(g0, .inr (0, [.ref g1, .ref g2, .ref g3, .int (nI (min (lc + 1) 8))])), (g1, .inl (cI, 8, .inl (shF fv a))), (g2, .inl (cI, 8, .inl (shF fk b))), (g3, .inl (cI, 8, .inl (shF fc d)))]) [0, 1, 2, 3] rfl
        have hD9 := hD.sub (ws' := [(g0, .inr (0, [.ref g1, .ref g2, .ref g3, .int (nI (min (lc + 1) 8))])), (g1, .inl (cI, 8, .inl (shF fv a))), (g2, .inl (cI, 8, .inl (shF fk b))), (g3, .inl (cI, 8, .inl (shF fc d)))]) [0, 1, 2, 3] (by decide) rfl
        exact kr_v hx hb hr hlocks hP9 hD9 hS dX0_add_99
      · have c_6 : ¬ k ≤ 0 := fun h => c_6 ((nI_leI (a := k) (b := 0) (by omega) (by omega)).mpr h)
        refine lv_aload_n hx hb dX0_add_9 rfl (lv_at hl 1 rfl) ?_
        refine va_get (D := D) (ci := 0) (v := .ref g1) (C := RX0) (T := TX0) (N := 4) hx hb hts inX0_add_0 hown hK hP 0 rfl rfl 0 (by decide) (hts (.fieldLink RX0 9 "WeighingConverter$Log" "voltages" "[I") (List.mem_of_getElem? (i := 1) rfl)) (fun _ h9 => h9) rfl dX0_add_10 ?_
        refine lv_iload hx hb dX0_add_13 (lv_at hl 0 rfl) ?_
        refine lv_aload_n hx hb dX0_add_15 rfl (lv_at hl 1 rfl) ?_
        refine va_get (D := D) (ci := 0) (v := .ref g1) (C := RX0) (T := TX0) (N := 4) hx hb hts inX0_add_0 hown hK hP 0 rfl rfl 0 (by decide) (hts (.fieldLink RX0 9 "WeighingConverter$Log" "voltages" "[I") (List.mem_of_getElem? (i := 1) rfl)) (fun _ h9 => h9) rfl dX0_add_16 ?_
        refine lv_iload hx hb dX0_add_19 (lv_at hl 0 rfl) ?_
        refine lv_iconst (v := 1) hx hb dX0_add_21 (by decide) ?_
        refine lv_isub hx hb dX0_add_22 ?_
        refine k_topi (y := nI (k - 1)) (pk_sub (a := k) (b := 1) (by omega)) ?_
        refine k_iald (k := k - 1) hx hb hK hP 1 0 rfl rfl (by omega) (by decide) dX0_add_23 ?_
        refine k_iast (k := k) hx hb hK hP hD hS 1 0 rfl rfl (by omega) (by decide) dX0_add_24 (fun H locs hP hD hS => ?_)
        have hP : va_P D vwCl [(g0, .inr (0, [.ref g1, .ref g2, .ref g3, .int (nI lc)])), (g1, .inl (cI, 8, .inl (upd h1 k (h1 (k - 1))))), (g2, .inl (cI, 8, .inl h2)), (g3, .inl (cI, 8, .inl h3))] H := hP
        have hD : va_D A [(g0, .inr (0, [.ref g1, .ref g2, .ref g3, .int (nI lc)])), (g1, .inl (cI, 8, .inl (upd h1 k (h1 (k - 1))))), (g2, .inl (cI, 8, .inl h2)), (g3, .inl (cI, 8, .inl h3))] := hD
        refine lv_aload_n hx hb dX0_add_25 rfl (lv_at hl 1 rfl) ?_
        refine va_get (D := D) (ci := 0) (v := .ref g2) (C := RX0) (T := TX0) (N := 4) hx hb hts inX0_add_0 hown hK hP 0 rfl rfl 1 (by decide) (hts (.fieldLink RX0 15 "WeighingConverter$Log" "keptMasks" "[I") (List.mem_of_getElem? (i := 2) rfl)) (fun _ h9 => h9) rfl dX0_add_26 ?_
        refine lv_iload hx hb dX0_add_29 (lv_at hl 0 rfl) ?_
        refine lv_aload_n hx hb dX0_add_31 rfl (lv_at hl 1 rfl) ?_
        refine va_get (D := D) (ci := 0) (v := .ref g2) (C := RX0) (T := TX0) (N := 4) hx hb hts inX0_add_0 hown hK hP 0 rfl rfl 1 (by decide) (hts (.fieldLink RX0 15 "WeighingConverter$Log" "keptMasks" "[I") (List.mem_of_getElem? (i := 2) rfl)) (fun _ h9 => h9) rfl dX0_add_32 ?_
        refine lv_iload hx hb dX0_add_35 (lv_at hl 0 rfl) ?_
        refine lv_iconst (v := 1) hx hb dX0_add_37 (by decide) ?_
        refine lv_isub hx hb dX0_add_38 ?_
        refine k_topi (y := nI (k - 1)) (pk_sub (a := k) (b := 1) (by omega)) ?_
        refine k_iald (k := k - 1) hx hb hK hP 2 0 rfl rfl (by omega) (by decide) dX0_add_39 ?_
        refine k_iast (k := k) hx hb hK hP hD hS 2 0 rfl rfl (by omega) (by decide) dX0_add_40 (fun H locs hP hD hS => ?_)
        have hP : va_P D vwCl [(g0, .inr (0, [.ref g1, .ref g2, .ref g3, .int (nI lc)])), (g1, .inl (cI, 8, .inl (upd h1 k (h1 (k - 1))))), (g2, .inl (cI, 8, .inl (upd h2 k (h2 (k - 1))))), (g3, .inl (cI, 8, .inl h3))] H := hP
        have hD : va_D A [(g0, .inr (0, [.ref g1, .ref g2, .ref g3, .int (nI lc)])), (g1, .inl (cI, 8, .inl (upd h1 k (h1 (k - 1))))), (g2, .inl (cI, 8, .inl (upd h2 k (h2 (k - 1))))), (g3, .inl (cI, 8, .inl h3))] := hD
        refine lv_aload_n hx hb dX0_add_41 rfl (lv_at hl 1 rfl) ?_
        refine va_get (D := D) (ci := 0) (v := .ref g3) (C := RX0) (T := TX0) (N := 4) hx hb hts inX0_add_0 hown hK hP 0 rfl rfl 2 (by decide) (hts (.fieldLink RX0 18 "WeighingConverter$Log" "codes" "[I") (List.mem_of_getElem? (i := 3) rfl)) (fun _ h9 => h9) rfl dX0_add_42 ?_
        refine lv_iload hx hb dX0_add_45 (lv_at hl 0 rfl) ?_
        refine lv_aload_n hx hb dX0_add_47 rfl (lv_at hl 1 rfl) ?_
        refine va_get (D := D) (ci := 0) (v := .ref g3) (C := RX0) (T := TX0) (N := 4) hx hb hts inX0_add_0 hown hK hP 0 rfl rfl 2 (by decide) (hts (.fieldLink RX0 18 "WeighingConverter$Log" "codes" "[I") (List.mem_of_getElem? (i := 3) rfl)) (fun _ h9 => h9) rfl dX0_add_48 ?_
        refine lv_iload hx hb dX0_add_51 (lv_at hl 0 rfl) ?_
        refine lv_iconst (v := 1) hx hb dX0_add_53 (by decide) ?_
        refine lv_isub hx hb dX0_add_54 ?_
        refine k_topi (y := nI (k - 1)) (pk_sub (a := k) (b := 1) (by omega)) ?_
        refine k_iald (k := k - 1) hx hb hK hP 3 0 rfl rfl (by omega) (by decide) dX0_add_55 ?_
        refine k_iast (k := k) hx hb hK hP hD hS 3 0 rfl rfl (by omega) (by decide) dX0_add_56 (fun H locs hP hD hS => ?_)
        have hP : va_P D vwCl [(g0, .inr (0, [.ref g1, .ref g2, .ref g3, .int (nI lc)])), (g1, .inl (cI, 8, .inl (upd h1 k (h1 (k - 1))))), (g2, .inl (cI, 8, .inl (upd h2 k (h2 (k - 1))))), (g3, .inl (cI, 8, .inl (upd h3 k (h3 (k - 1)))))] H := hP
        have hD : va_D A [(g0, .inr (0, [.ref g1, .ref g2, .ref g3, .int (nI lc)])), (g1, .inl (cI, 8, .inl (upd h1 k (h1 (k - 1))))), (g2, .inl (cI, 8, .inl (upd h2 k (h2 (k - 1))))), (g3, .inl (cI, 8, .inl (upd h3 k (h3 (k - 1)))))] := hD
        refine lv_iinc (v := nI (k - 1)) (lv' := [(4, .int (nI (k - 1))), (0, .ref g0), (1, .int a), (2, .int b), (3, .int d)]) hx hb dX0_add_57 hl (k := 0) rfl (k_dec1 k (by omega)) (by decide) rfl (fun ls hl => ?_)
        refine lv_goto (tgt := 4) hx hb dX0_add_60 (by decide) ?_
        exact ih4 (k - 1) (upd h1 k (h1 (k - 1))) (upd h2 k (h2 (k - 1))) (upd h3 k (h3 (k - 1))) (by first | assumption | omega) (fun j => by simp only [upd, q1]; (repeat' split) <;> first | rfl | omega | (congr 1; omega)) (fun j => by simp only [upd, q2]; (repeat' split) <;> first | rfl | omega | (congr 1; omega)) (fun j => by simp only [upd, q3]; (repeat' split) <;> first | rfl | omega | (congr 1; omega)) (by omega) _ _ (hP.sub [0, 1, 2, 3] rfl) (hD.sub [0, 1, 2, 3] (by decide) rfl) hS _ (lv_sub hl [0, 1, 2, 3, 4] rfl)
  exact J4 (7 + 1) 7 fv fk fc (by first | assumption | omega) (fun j => by rw [if_neg (by omega)]) (fun j => by rw [if_neg (by omega)]) (fun j => by rw [if_neg (by omega)]) (Nat.lt_succ_self _) _ _ (hP.sub [0, 1, 2, 3] rfl) (hD.sub [0, 1, 2, 3] (by decide) rfl) hS _ (lv_sub hl [0, 1, 2, 3, 4] rfl)

theorem inX0_copyFrom_0 : ∀ w ∈ wsX00, w ∈ wsX0_copyFrom := fun _ h => List.mem_cons_of_mem _ (List.mem_append_right _ h)
abbrev rmkX0_copyFrom : Room := { frames := 1, cells := 0, slots := 0, locals := 60 }
set_option maxHeartbeats 4000000 in
set_option maxRecDepth 100000 in
theorem kX0_copyFrom (l : Launch) (D : va_G) (sz : Nat) (cI : ClassId) (cC : ClassId) (cJ : ClassId) (cZ : ClassId) (cQ : ClassId) (g0 : Nat) (g1 : Nat) (g2 : Nat) (g3 : Nat) (lc : Nat) (o0 : Nat) (o1 : Nat) (o2 : Nat) (o3 : Nat) (oc : Nat) (fv : Nat → Int32) (fk : Nat → Int32) (fc : Nat → Int32) (ov : Nat → Int32) (ok : Nat → Int32) (oc9 : Nat → Int32) : Met l yX0_copyFrom wsX0_copyFrom rmkX0_copyFrom (va_Pc [.ref g0, .ref o0] (kPre D sz [(g0, .inr (0, [.ref g1, .ref g2, .ref g3, .int (nI lc)])), (g1, .inl (cI, 8, .inl fv)), (g2, .inl (cI, 8, .inl fk)), (g3, .inl (cI, 8, .inl fc)), (o0, .inr (0, [.ref o1, .ref o2, .ref o3, .int (nI oc)])), (o1, .inl (cI, 8, .inl ov)), (o2, .inl (cI, 8, .inl ok)), (o3, .inl (cI, 8, .inl oc9))] (kT cI cC cJ cZ cQ))) (kQv D [(g0, .inr (0, [.ref g1, .ref g2, .ref g3, .int (nI oc)])), (g1, .inl (cI, 8, .inl ov)), (g2, .inl (cI, 8, .inl ok)), (g3, .inl (cI, 8, .inl oc9)), (o0, .inr (0, [.ref o1, .ref o2, .ref o3, .int (nI oc)])), (o1, .inl (cI, 8, .inl ov)), (o2, .inl (cI, 8, .inl ok)), (o3, .inl (cI, 8, .inl oc9))] (va_A [(g0, .inr (0, [.ref g1, .ref g2, .ref g3, .int (nI lc)])), (g1, .inl (cI, 8, .inl fv)), (g2, .inl (cI, 8, .inl fk)), (g3, .inl (cI, 8, .inl fc)), (o0, .inr (0, [.ref o1, .ref o2, .ref o3, .int (nI oc)])), (o1, .inl (cI, 8, .inl ov)), (o2, .inl (cI, 8, .inl ok)), (o3, .inl (cI, 8, .inl oc9))] sz)) 0 0 (va_A [(g0, .inr (0, [.ref g1, .ref g2, .ref g3, .int (nI lc)])), (g1, .inl (cI, 8, .inl fv)), (g2, .inl (cI, 8, .inl fk)), (g3, .inl (cI, 8, .inl fc)), (o0, .inr (0, [.ref o1, .ref o2, .ref o3, .int (nI oc)])), (o1, .inl (cI, 8, .inl ov)), (o2, .inl (cI, 8, .inl ok)), (o3, .inl (cI, 8, .inl oc9))] sz) := by
  refine k_met (Qf := kQv D [(g0, .inr (0, [.ref g1, .ref g2, .ref g3, .int (nI oc)])), (g1, .inl (cI, 8, .inl ov)), (g2, .inl (cI, 8, .inl ok)), (g3, .inl (cI, 8, .inl oc9)), (o0, .inr (0, [.ref o1, .ref o2, .ref o3, .int (nI oc)])), (o1, .inl (cI, 8, .inl ov)), (o2, .inl (cI, 8, .inl ok)), (o3, .inl (cI, 8, .inl oc9))]) (cc := cX0_copyFrom) (maxL := 2) (ret := none) (own := RX0) (by decide) rfl (Nat.le_of_ble_eq_true rfl) rfl ?_
  intro p e s m args below meth c ls A H locs hx hb hr hts hown hlocks hml hin hsz hP hK hD hA hS hN hl
  have hl : lv_has ls 2 [(0, .ref g0), (1, .ref o0)] := hl
  refine lv_aload_n hx hb dX0_copyFrom_0 rfl (lv_at hl 1 rfl) ?_
  refine va_get (D := D) (ci := 0) (v := .ref o1) (C := RX0) (T := TX0) (N := 4) hx hb hts inX0_copyFrom_0 hown hK hP 4 rfl rfl 0 (by decide) (hts (.fieldLink RX0 9 "WeighingConverter$Log" "voltages" "[I") (List.mem_of_getElem? (i := 1) rfl)) (fun _ h9 => h9) rfl dX0_copyFrom_1 ?_
  refine lv_iconst (v := 0) hx hb dX0_copyFrom_4 (by decide) ?_
  refine lv_aload_n hx hb dX0_copyFrom_5 rfl (lv_at hl 0 rfl) ?_
  refine va_get (D := D) (ci := 0) (v := .ref g1) (C := RX0) (T := TX0) (N := 4) hx hb hts inX0_copyFrom_0 hown hK hP 0 rfl rfl 0 (by decide) (hts (.fieldLink RX0 9 "WeighingConverter$Log" "voltages" "[I") (List.mem_of_getElem? (i := 1) rfl)) (fun _ h9 => h9) rfl dX0_copyFrom_6 ?_
  refine lv_iconst (v := 0) hx hb dX0_copyFrom_9 (by decide) ?_
  refine lv_bipush (v := 8) hx hb dX0_copyFrom_10 (by decide) ?_
  refine va_copyi hx hb (hml.trans hl.1.symm) hown (hts (.methodLink RX0 25 arraycopyName) (List.mem_of_getElem? (i := 2) rfl)) (hts (.native arraycopyName) (List.mem_of_getElem? (i := 3) rfl)) (hts (.static arraycopyName) (List.mem_of_getElem? (i := 4) rfl)) (hts (.initialized "java/lang/System") (List.mem_of_getElem? (i := 5) rfl)) hK hP hD hS 5 1 0 0 rfl rfl rfl rfl rfl (by decide) (by decide) (by decide) (by decide) (by decide) (fun _ _ => rfl) (Nat.le_of_ble_eq_true rfl) (Nat.le_of_ble_eq_true rfl) dX0_copyFrom_12 (fun H locs hP hD hS => ?_)
  have hP : va_P D vwCl [(g0, .inr (0, [.ref g1, .ref g2, .ref g3, .int (nI lc)])), (g1, .inl (cI, 8, .inl (va_cpy ov fv (0 : Int32).toNatClampNeg (0 : Int32).toNatClampNeg (8 : Int32).toNatClampNeg))), (g2, .inl (cI, 8, .inl fk)), (g3, .inl (cI, 8, .inl fc)), (o0, .inr (0, [.ref o1, .ref o2, .ref o3, .int (nI oc)])), (o1, .inl (cI, 8, .inl ov)), (o2, .inl (cI, 8, .inl ok)), (o3, .inl (cI, 8, .inl oc9))] H := hP
  have hD : va_D A [(g0, .inr (0, [.ref g1, .ref g2, .ref g3, .int (nI lc)])), (g1, .inl (cI, 8, .inl (va_cpy ov fv (0 : Int32).toNatClampNeg (0 : Int32).toNatClampNeg (8 : Int32).toNatClampNeg))), (g2, .inl (cI, 8, .inl fk)), (g3, .inl (cI, 8, .inl fc)), (o0, .inr (0, [.ref o1, .ref o2, .ref o3, .int (nI oc)])), (o1, .inl (cI, 8, .inl ov)), (o2, .inl (cI, 8, .inl ok)), (o3, .inl (cI, 8, .inl oc9))] := hD
  have hP := k_arr hP 1 rfl (g := ov) (fun j hj => sb_cpy0 hj)
  have hD := hD.set (p := 1) (e := .inl (cI, 8, .inl ov)) rfl
  have hP : va_P D vwCl [(g0, .inr (0, [.ref g1, .ref g2, .ref g3, .int (nI lc)])), (g1, .inl (cI, 8, .inl ov)), (g2, .inl (cI, 8, .inl fk)), (g3, .inl (cI, 8, .inl fc)), (o0, .inr (0, [.ref o1, .ref o2, .ref o3, .int (nI oc)])), (o1, .inl (cI, 8, .inl ov)), (o2, .inl (cI, 8, .inl ok)), (o3, .inl (cI, 8, .inl oc9))] H := hP
  have hD : va_D A [(g0, .inr (0, [.ref g1, .ref g2, .ref g3, .int (nI lc)])), (g1, .inl (cI, 8, .inl ov)), (g2, .inl (cI, 8, .inl fk)), (g3, .inl (cI, 8, .inl fc)), (o0, .inr (0, [.ref o1, .ref o2, .ref o3, .int (nI oc)])), (o1, .inl (cI, 8, .inl ov)), (o2, .inl (cI, 8, .inl ok)), (o3, .inl (cI, 8, .inl oc9))] := hD
  refine lv_aload_n hx hb dX0_copyFrom_15 rfl (lv_at hl 1 rfl) ?_
  refine va_get (D := D) (ci := 0) (v := .ref o2) (C := RX0) (T := TX0) (N := 4) hx hb hts inX0_copyFrom_0 hown hK hP 4 rfl rfl 1 (by decide) (hts (.fieldLink RX0 15 "WeighingConverter$Log" "keptMasks" "[I") (List.mem_of_getElem? (i := 6) rfl)) (fun _ h9 => h9) rfl dX0_copyFrom_16 ?_
  refine lv_iconst (v := 0) hx hb dX0_copyFrom_19 (by decide) ?_
  refine lv_aload_n hx hb dX0_copyFrom_20 rfl (lv_at hl 0 rfl) ?_
  refine va_get (D := D) (ci := 0) (v := .ref g2) (C := RX0) (T := TX0) (N := 4) hx hb hts inX0_copyFrom_0 hown hK hP 0 rfl rfl 1 (by decide) (hts (.fieldLink RX0 15 "WeighingConverter$Log" "keptMasks" "[I") (List.mem_of_getElem? (i := 6) rfl)) (fun _ h9 => h9) rfl dX0_copyFrom_21 ?_
  refine lv_iconst (v := 0) hx hb dX0_copyFrom_24 (by decide) ?_
  refine lv_bipush (v := 8) hx hb dX0_copyFrom_25 (by decide) ?_
  refine va_copyi hx hb (hml.trans hl.1.symm) hown (hts (.methodLink RX0 25 arraycopyName) (List.mem_of_getElem? (i := 2) rfl)) (hts (.native arraycopyName) (List.mem_of_getElem? (i := 3) rfl)) (hts (.static arraycopyName) (List.mem_of_getElem? (i := 4) rfl)) (hts (.initialized "java/lang/System") (List.mem_of_getElem? (i := 5) rfl)) hK hP hD hS 6 2 0 0 rfl rfl rfl rfl rfl (by decide) (by decide) (by decide) (by decide) (by decide) (fun _ _ => rfl) (Nat.le_of_ble_eq_true rfl) (Nat.le_of_ble_eq_true rfl) dX0_copyFrom_27 (fun H locs hP hD hS => ?_)
  have hP : va_P D vwCl [(g0, .inr (0, [.ref g1, .ref g2, .ref g3, .int (nI lc)])), (g1, .inl (cI, 8, .inl ov)), (g2, .inl (cI, 8, .inl (va_cpy ok fk (0 : Int32).toNatClampNeg (0 : Int32).toNatClampNeg (8 : Int32).toNatClampNeg))), (g3, .inl (cI, 8, .inl fc)), (o0, .inr (0, [.ref o1, .ref o2, .ref o3, .int (nI oc)])), (o1, .inl (cI, 8, .inl ov)), (o2, .inl (cI, 8, .inl ok)), (o3, .inl (cI, 8, .inl oc9))] H := hP
  have hD : va_D A [(g0, .inr (0, [.ref g1, .ref g2, .ref g3, .int (nI lc)])), (g1, .inl (cI, 8, .inl ov)), (g2, .inl (cI, 8, .inl (va_cpy ok fk (0 : Int32).toNatClampNeg (0 : Int32).toNatClampNeg (8 : Int32).toNatClampNeg))), (g3, .inl (cI, 8, .inl fc)), (o0, .inr (0, [.ref o1, .ref o2, .ref o3, .int (nI oc)])), (o1, .inl (cI, 8, .inl ov)), (o2, .inl (cI, 8, .inl ok)), (o3, .inl (cI, 8, .inl oc9))] := hD
  have hP := k_arr hP 2 rfl (g := ok) (fun j hj => sb_cpy0 hj)
  have hD := hD.set (p := 2) (e := .inl (cI, 8, .inl ok)) rfl
  have hP : va_P D vwCl [(g0, .inr (0, [.ref g1, .ref g2, .ref g3, .int (nI lc)])), (g1, .inl (cI, 8, .inl ov)), (g2, .inl (cI, 8, .inl ok)), (g3, .inl (cI, 8, .inl fc)), (o0, .inr (0, [.ref o1, .ref o2, .ref o3, .int (nI oc)])), (o1, .inl (cI, 8, .inl ov)), (o2, .inl (cI, 8, .inl ok)), (o3, .inl (cI, 8, .inl oc9))] H := hP
  have hD : va_D A [(g0, .inr (0, [.ref g1, .ref g2, .ref g3, .int (nI lc)])), (g1, .inl (cI, 8, .inl ov)), (g2, .inl (cI, 8, .inl ok)), (g3, .inl (cI, 8, .inl fc)), (o0, .inr (0, [.ref o1, .ref o2, .ref o3, .int (nI oc)])), (o1, .inl (cI, 8, .inl ov)), (o2, .inl (cI, 8, .inl ok)), (o3, .inl (cI, 8, .inl oc9))] := hD
  refine lv_aload_n hx hb dX0_copyFrom_30 rfl (lv_at hl 1 rfl) ?_
  refine va_get (D := D) (ci := 0) (v := .ref o3) (C := RX0) (T := TX0) (N := 4) hx hb hts inX0_copyFrom_0 hown hK hP 4 rfl rfl 2 (by decide) (hts (.fieldLink RX0 18 "WeighingConverter$Log" "codes" "[I") (List.mem_of_getElem? (i := 7) rfl)) (fun _ h9 => h9) rfl dX0_copyFrom_31 ?_
  refine lv_iconst (v := 0) hx hb dX0_copyFrom_34 (by decide) ?_
  refine lv_aload_n hx hb dX0_copyFrom_35 rfl (lv_at hl 0 rfl) ?_
  refine va_get (D := D) (ci := 0) (v := .ref g3) (C := RX0) (T := TX0) (N := 4) hx hb hts inX0_copyFrom_0 hown hK hP 0 rfl rfl 2 (by decide) (hts (.fieldLink RX0 18 "WeighingConverter$Log" "codes" "[I") (List.mem_of_getElem? (i := 7) rfl)) (fun _ h9 => h9) rfl dX0_copyFrom_36 ?_
  refine lv_iconst (v := 0) hx hb dX0_copyFrom_39 (by decide) ?_
  refine lv_bipush (v := 8) hx hb dX0_copyFrom_40 (by decide) ?_
  refine va_copyi hx hb (hml.trans hl.1.symm) hown (hts (.methodLink RX0 25 arraycopyName) (List.mem_of_getElem? (i := 2) rfl)) (hts (.native arraycopyName) (List.mem_of_getElem? (i := 3) rfl)) (hts (.static arraycopyName) (List.mem_of_getElem? (i := 4) rfl)) (hts (.initialized "java/lang/System") (List.mem_of_getElem? (i := 5) rfl)) hK hP hD hS 7 3 0 0 rfl rfl rfl rfl rfl (by decide) (by decide) (by decide) (by decide) (by decide) (fun _ _ => rfl) (Nat.le_of_ble_eq_true rfl) (Nat.le_of_ble_eq_true rfl) dX0_copyFrom_42 (fun H locs hP hD hS => ?_)
  have hP : va_P D vwCl [(g0, .inr (0, [.ref g1, .ref g2, .ref g3, .int (nI lc)])), (g1, .inl (cI, 8, .inl ov)), (g2, .inl (cI, 8, .inl ok)), (g3, .inl (cI, 8, .inl (va_cpy oc9 fc (0 : Int32).toNatClampNeg (0 : Int32).toNatClampNeg (8 : Int32).toNatClampNeg))), (o0, .inr (0, [.ref o1, .ref o2, .ref o3, .int (nI oc)])), (o1, .inl (cI, 8, .inl ov)), (o2, .inl (cI, 8, .inl ok)), (o3, .inl (cI, 8, .inl oc9))] H := hP
  have hD : va_D A [(g0, .inr (0, [.ref g1, .ref g2, .ref g3, .int (nI lc)])), (g1, .inl (cI, 8, .inl ov)), (g2, .inl (cI, 8, .inl ok)), (g3, .inl (cI, 8, .inl (va_cpy oc9 fc (0 : Int32).toNatClampNeg (0 : Int32).toNatClampNeg (8 : Int32).toNatClampNeg))), (o0, .inr (0, [.ref o1, .ref o2, .ref o3, .int (nI oc)])), (o1, .inl (cI, 8, .inl ov)), (o2, .inl (cI, 8, .inl ok)), (o3, .inl (cI, 8, .inl oc9))] := hD
  have hP := k_arr hP 3 rfl (g := oc9) (fun j hj => sb_cpy0 hj)
  have hD := hD.set (p := 3) (e := .inl (cI, 8, .inl oc9)) rfl
  have hP : va_P D vwCl [(g0, .inr (0, [.ref g1, .ref g2, .ref g3, .int (nI lc)])), (g1, .inl (cI, 8, .inl ov)), (g2, .inl (cI, 8, .inl ok)), (g3, .inl (cI, 8, .inl oc9)), (o0, .inr (0, [.ref o1, .ref o2, .ref o3, .int (nI oc)])), (o1, .inl (cI, 8, .inl ov)), (o2, .inl (cI, 8, .inl ok)), (o3, .inl (cI, 8, .inl oc9))] H := hP
  have hD : va_D A [(g0, .inr (0, [.ref g1, .ref g2, .ref g3, .int (nI lc)])), (g1, .inl (cI, 8, .inl ov)), (g2, .inl (cI, 8, .inl ok)), (g3, .inl (cI, 8, .inl oc9)), (o0, .inr (0, [.ref o1, .ref o2, .ref o3, .int (nI oc)])), (o1, .inl (cI, 8, .inl ov)), (o2, .inl (cI, 8, .inl ok)), (o3, .inl (cI, 8, .inl oc9))] := hD
  refine lv_aload_n hx hb dX0_copyFrom_45 rfl (lv_at hl 0 rfl) ?_
  refine lv_aload_n hx hb dX0_copyFrom_46 rfl (lv_at hl 1 rfl) ?_
  refine va_get (D := D) (ci := 0) (v := .int (nI oc)) (C := RX0) (T := TX0) (N := 4) hx hb hts inX0_copyFrom_0 hown hK hP 4 rfl rfl 3 (by decide) (hts (.fieldLink RX0 21 "WeighingConverter$Log" "count" "I") (List.mem_of_getElem? (i := 8) rfl)) (fun _ h9 => h9) rfl dX0_copyFrom_47 ?_
  refine va_put (D := D) (ci := 0) (v := .int (nI oc)) (ty := .int) (C := RX0) (T := TX0) (N := 4) hx hb hts inX0_copyFrom_0 tyX0 tyX0_ok nmX0 hown hK hP hD hS 0 rfl rfl 3 (by decide) (hts (.fieldLink RX0 21 "WeighingConverter$Log" "count" "I") (List.mem_of_getElem? (i := 8) rfl)) (fun _ h9 => h9) rfl (by decide +kernel) rfl rfl (Nat.le_of_ble_eq_true rfl) dX0_copyFrom_50 (fun H locs hP hD hS => ?_)
  have hP : va_P D vwCl [(g0, .inr (0, [.ref g1, .ref g2, .ref g3, .int (nI oc)])), (g1, .inl (cI, 8, .inl ov)), (g2, .inl (cI, 8, .inl ok)), (g3, .inl (cI, 8, .inl oc9)), (o0, .inr (0, [.ref o1, .ref o2, .ref o3, .int (nI oc)])), (o1, .inl (cI, 8, .inl ov)), (o2, .inl (cI, 8, .inl ok)), (o3, .inl (cI, 8, .inl oc9))] H := hP
  have hD : va_D A [(g0, .inr (0, [.ref g1, .ref g2, .ref g3, .int (nI oc)])), (g1, .inl (cI, 8, .inl ov)), (g2, .inl (cI, 8, .inl ok)), (g3, .inl (cI, 8, .inl oc9)), (o0, .inr (0, [.ref o1, .ref o2, .ref o3, .int (nI oc)])), (o1, .inl (cI, 8, .inl ov)), (o2, .inl (cI, 8, .inl ok)), (o3, .inl (cI, 8, .inl oc9))] := hD
  have hP9 := hP.sub (ws' := [(g0, .inr (0, [.ref g1, .ref g2, .ref g3, .int (nI oc)])), (g1, .inl (cI, 8, .inl ov)), (g2, .inl (cI, 8, .inl ok)), (g3, .inl (cI, 8, .inl oc9)), (o0, .inr (0, [.ref o1, .ref o2, .ref o3, .int (nI oc)])), (o1, .inl (cI, 8, .inl ov)), (o2, .inl (cI, 8, .inl ok)), (o3, .inl (cI, 8, .inl oc9))]) [0, 1, 2, 3, 4, 5, 6, 7] rfl
  have hD9 := hD.sub (ws' := [(g0, .inr (0, [.ref g1, .ref g2, .ref g3, .int (nI oc)])), (g1, .inl (cI, 8, .inl ov)), (g2, .inl (cI, 8, .inl ok)), (g3, .inl (cI, 8, .inl oc9)), (o0, .inr (0, [.ref o1, .ref o2, .ref o3, .int (nI oc)])), (o1, .inl (cI, 8, .inl ov)), (o2, .inl (cI, 8, .inl ok)), (o3, .inl (cI, 8, .inl oc9))]) [0, 1, 2, 3, 4, 5, 6, 7] (by decide) rfl
  exact kr_v hx hb hr hlocks hP9 hD9 hS dX0_copyFrom_53
