/-! contracts laid by program (wip/p36/gen) -/
theorem inX3_addShifted_3 : ∀ w ∈ wsX30, w ∈ wsX3_addShifted := fun _ h => List.mem_cons_of_mem _ (List.mem_append_right _ h)
abbrev rmkX3_addShifted : Room := { frames := 0, cells := 0, slots := 0, locals := 0 }
set_option maxHeartbeats 4000000 in
set_option maxRecDepth 100000 in
theorem kX3_addShifted (l : Launch) (D : va_G) (sz : Nat) (cI : ClassId) (cC : ClassId) (cJ : ClassId) (cZ : ClassId) (cQ : ClassId) (u0 : Nat) (u1 : Nat) (wd : Nat → Int64) (n : Nat) (hn : n ≤ 2048) : Met l yX3_addShifted wsX3_addShifted rmkX3_addShifted (va_Pc [.ref u0, .int (nI n)] (kPre D sz [(u0, .inr (3, [.ref u1])), (u1, .inl (cJ, 64, .inr (.inl wd)))] (kT cI cC cJ cZ cQ))) (kQv D [(u0, .inr (3, [.ref u1])), (u1, .inl (cJ, 64, .inr (.inl (addG wd n))))] (va_A [(u0, .inr (3, [.ref u1])), (u1, .inl (cJ, 64, .inr (.inl wd)))] sz)) 0 0 (va_A [(u0, .inr (3, [.ref u1])), (u1, .inl (cJ, 64, .inr (.inl wd)))] sz) := by
  refine k_met (Qf := kQv D [(u0, .inr (3, [.ref u1])), (u1, .inl (cJ, 64, .inr (.inl (addG wd n))))]) (cc := cX3_addShifted) (maxL := 7) (ret := none) (own := RX3) (by decide) rfl (Nat.le_of_ble_eq_true rfl) rfl ?_
  intro p e s m args below meth c ls A H locs hx hb hr hts hown hlocks hml hin hsz hP hK hD hA hS hN hl
  have hl : lv_has ls 7 [(0, .ref u0), (1, .int (nI n))] := hl
  refine lv_iload_n hx hb dX3_addShifted_0 rfl (lv_at hl 1 rfl) ?_
  refine lv_bipush (v := 64) hx hb dX3_addShifted_1 (by decide) ?_
  refine lv_idiv hx hb dX3_addShifted_3 (by decide) ?_
  refine k_topi (y := nI (n / 64)) (pk_div (a := n) (d := 64) (by omega) (by omega) (by omega)) ?_
  refine lv_istore_n (lv' := [(2, .int (nI (n / 64))), (0, .ref u0), (1, .int (nI n))]) hx hb dX3_addShifted_4 rfl hl (by decide) rfl (fun ls hl => ?_)
  refine lv_iload_n hx hb dX3_addShifted_5 rfl (lv_at hl 2 rfl) ?_
  refine lv_bipush (v := 64) hx hb dX3_addShifted_6 (by decide) ?_
  refine lv_irem hx hb dX3_addShifted_8 (by decide) ?_
  refine k_topi (y := nI (n % 64)) (pk_rem (a := n) (d := 64) (by omega) (by omega) (by omega)) ?_
  refine lv_istore_n (lv' := [(3, .int (nI (n % 64))), (2, .int (nI (n / 64))), (0, .ref u0), (1, .int (nI n))]) hx hb dX3_addShifted_9 rfl hl (by decide) rfl (fun ls hl => ?_)
  refine lv_bipush (v := 63) hx hb dX3_addShifted_10 (by decide) ?_
  refine lv_istore (lv' := [(4, .int 63), (3, .int (nI (n % 64))), (2, .int (nI (n / 64))), (0, .ref u0), (1, .int (nI n))]) hx hb dX3_addShifted_12 hl (by decide) rfl (fun ls hl => ?_)
  have J14 : ∀ (fuel : Nat) (j : Nat) (x : Int32) (g : Nat → Int64) (hj : n / 64 ≤ j) (hj2 : j ≤ 64) (hx9 : x.toInt = (j : Int) - 1) (hg : ∀ w, g w = if j ≤ w ∧ w < 64 then wd w ||| shV wd n w else wd w) (hm : j < fuel) (H : Heap) (locs : List Loc) (hP : va_P D vwCl [(u0, .inr (3, [.ref u1])), (u1, .inl (cJ, 64, .inr (.inl g)))] H) (hD : va_D A [(u0, .inr (3, [.ref u1])), (u1, .inl (cJ, 64, .inr (.inl g)))]) (hS : va_S A s.heap H locs) (ls : Array Slot) (hl : lv_has ls 7 [(4, .int x), (3, .int (nI (n % 64))), (2, .int (nI (n / 64))), (0, .ref u0), (1, .int (nI n))]), W p l e rmkX3_addShifted s m args below meth c H locs 0 0 (MQ below (kQv D [(u0, .inr (3, [.ref u1])), (u1, .inl (cJ, 64, .inr (.inl (addG wd n))))] A) args s 0 0 A) (F0 m 14 ls []) := by
    intro fuel
    induction fuel with
    | zero => intro j x g hj hj2 hx9 hg hm; exact absurd hm (Nat.not_lt_zero _)
    | succ fuel ih14 =>
      intro j x g hj hj2 hx9 hg hm H locs hP hD hS ls hl
      refine lv_iload hx hb dX3_addShifted_14 (lv_at hl 0 rfl) ?_
      refine lv_iload_n hx hb dX3_addShifted_16 rfl (lv_at hl 2 rfl) ?_
      refine lv_icmp_lt (tgt := 82) hx hb dX3_addShifted_17 (by decide) (fun c_17 => ?_) (fun c_17 => ?_)
      · have c_17 : j ≤ n / 64 := by
          rw [i_lt, hx9, nI_toInt (by omega)] at c_17
          omega
        have hP := k_arrL hP 1 rfl (g := addG wd n) (addG_end (by omega) hg)
        have hD := hD.set (p := 1) (e := .inl (cJ, 64, .inr (.inl (addG wd n)))) rfl
        have hP : va_P D vwCl [(u0, .inr (3, [.ref u1])), (u1, .inl (cJ, 64, .inr (.inl (addG wd n))))] H := hP
        have hD : va_D A [(u0, .inr (3, [.ref u1])), (u1, .inl (cJ, 64, .inr (.inl (addG wd n))))] := hD
        have hP9 := hP.sub (ws' := [(u0, .inr (3, [.ref u1])), (u1, .inl (cJ, 64, .inr (.inl (addG wd n))))]) [0, 1] rfl
        have hD9 := hD.sub (ws' := [(u0, .inr (3, [.ref u1])), (u1, .inl (cJ, 64, .inr (.inl (addG wd n))))]) [0, 1] (by decide) rfl
        exact kr_v hx hb hr hlocks hP9 hD9 hS dX3_addShifted_82
      · have c_17 : n / 64 < j := by
          rw [i_lt, hx9, nI_toInt (by omega)] at c_17
          omega
        obtain rfl : x = nI (j - 1) := by
          rw [i_eq, hx9, nI_toInt (by omega)]
          omega
        refine lv_aload_n hx hb dX3_addShifted_20 rfl (lv_at hl 3 rfl) ?_
        refine va_get (D := D) (ci := 3) (v := .ref u1) (C := RX3) (T := TX3) (N := 1) hx hb hts inX3_addShifted_3 hown hK hP 0 rfl rfl 0 (by decide) (hts (.fieldLink RX3 11 "WeighingConverter$SumSet" "words" "[J") (List.mem_of_getElem? (i := 1) rfl)) (fun _ h9 => h9) rfl dX3_addShifted_21 ?_
        refine lv_iload hx hb dX3_addShifted_24 (lv_at hl 0 rfl) ?_
        refine lv_iload_n hx hb dX3_addShifted_26 rfl (lv_at hl 2 rfl) ?_
        refine lv_isub hx hb dX3_addShifted_27 ?_
        refine k_topi (y := nI ((j - 1) - (n / 64))) (pk_sub (a := (j - 1)) (b := (n / 64)) (by omega)) ?_
        refine k_lald (k := (j - 1) - (n / 64)) hx hb hK hP 1 2 rfl rfl (by omega) (by decide) dX3_addShifted_28 ?_
        refine k_topl (y := wd (j - 1 - n / 64)) (by rw [hg, if_neg (by omega)]) ?_
        refine lv_iload_n hx hb dX3_addShifted_29 rfl (lv_at hl 1 rfl) ?_
        refine lv_lshl hx hb dX3_addShifted_30 rfl ?_
        refine lv_lstore (lv' := [(5, .long ((wd (j - 1 - n / 64)) <<< ((nI (n % 64) : Int32).toInt64 &&& 63))), (4, .int (nI (j - 1))), (3, .int (nI (n % 64))), (2, .int (nI (n / 64))), (0, .ref u0), (1, .int (nI n))]) hx hb dX3_addShifted_31 hl (by decide) rfl (fun ls hl => ?_)
        refine lv_iload_n hx hb dX3_addShifted_33 rfl (lv_at hl 2 rfl) ?_
        refine lv_if_le (tgt := 64) hx hb dX3_addShifted_34 (by decide) (fun c_34 => ?_) (fun c_34 => ?_)
        · have c_34 : (n % 64) ≤ 0 := (nI_leI (a := (n % 64)) (b := 0) (by omega) (by omega)).mp c_34
          refine lv_aload_n hx hb dX3_addShifted_64 rfl (lv_at hl 4 rfl) ?_
          refine va_get (D := D) (ci := 3) (v := .ref u1) (C := RX3) (T := TX3) (N := 1) hx hb hts inX3_addShifted_3 hown hK hP 0 rfl rfl 0 (by decide) (hts (.fieldLink RX3 11 "WeighingConverter$SumSet" "words" "[J") (List.mem_of_getElem? (i := 1) rfl)) (fun _ h9 => h9) rfl dX3_addShifted_65 ?_
          refine lv_iload hx hb dX3_addShifted_68 (lv_at hl 1 rfl) ?_
          refine lv_dup2_11 hx hb dX3_addShifted_70 rfl rfl ?_
          refine k_lald (k := j - 1) hx hb hK hP 1 2 rfl rfl (by omega) (by decide) dX3_addShifted_71 ?_
          refine k_topl (y := wd (j - 1)) (by rw [hg, if_neg (by omega)]) ?_
          refine lv_lload hx hb dX3_addShifted_72 (lv_at hl 0 rfl) ?_
          refine lv_lor hx hb dX3_addShifted_74 ?_
          refine k_last (k := j - 1) hx hb hK hP hD hS 1 2 rfl rfl (by omega) (by decide) dX3_addShifted_75 (fun H locs hP hD hS => ?_)
          have hP : va_P D vwCl [(u0, .inr (3, [.ref u1])), (u1, .inl (cJ, 64, .inr (.inl (vp_updL g (j - 1) ((wd (j - 1)) ||| ((wd (j - 1 - n / 64)) <<< ((nI (n % 64) : Int32).toInt64 &&& 63)))))))] H := hP
          have hD : va_D A [(u0, .inr (3, [.ref u1])), (u1, .inl (cJ, 64, .inr (.inl (vp_updL g (j - 1) ((wd (j - 1)) ||| ((wd (j - 1 - n / 64)) <<< ((nI (n % 64) : Int32).toInt64 &&& 63)))))))] := hD
          refine lv_iinc (v := (nI (j - 1)) + (-1)) (lv' := [(4, .int ((nI (j - 1)) + (-1))), (5, .long ((wd (j - 1 - n / 64)) <<< ((nI (n % 64) : Int32).toInt64 &&& 63))), (3, .int (nI (n % 64))), (2, .int (nI (n / 64))), (0, .ref u0), (1, .int (nI n))]) hx hb dX3_addShifted_76 hl (k := 1) rfl rfl (by decide) rfl (fun ls hl => ?_)
          refine lv_goto (tgt := 14) hx hb dX3_addShifted_79 (by decide) ?_
          exact ih14 (j - 1) ((nI (j - 1)) + (-1)) (vp_updL g (j - 1) ((wd (j - 1)) ||| ((wd (j - 1 - n / 64)) <<< ((nI (n % 64) : Int32).toInt64 &&& 63)))) (by first | assumption | omega) (by first | assumption | omega) (k_m1I (by omega)) (addG_step (by omega) (by omega) hg (by rw [shV]; first | rw [if_pos (by omega)] | rw [if_neg (by omega)])) (by omega) _ _ (hP.sub [0, 1] rfl) (hD.sub [0, 1] (by decide) rfl) hS _ (lv_sub hl [0, 2, 3, 4, 5] rfl)
        · have c_34 : ¬ (n % 64) ≤ 0 := fun h => c_34 ((nI_leI (a := (n % 64)) (b := 0) (by omega) (by omega)).mpr h)
          refine lv_iload hx hb dX3_addShifted_37 (lv_at hl 1 rfl) ?_
          refine lv_iload_n hx hb dX3_addShifted_39 rfl (lv_at hl 3 rfl) ?_
          refine lv_icmp_le (tgt := 64) hx hb dX3_addShifted_40 (by decide) (fun c_40 => ?_) (fun c_40 => ?_)
          · have c_40 : (j - 1) ≤ (n / 64) := (nI_leI (a := (j - 1)) (b := (n / 64)) (by omega) (by omega)).mp c_40
            refine lv_aload_n hx hb dX3_addShifted_64 rfl (lv_at hl 4 rfl) ?_
            refine va_get (D := D) (ci := 3) (v := .ref u1) (C := RX3) (T := TX3) (N := 1) hx hb hts inX3_addShifted_3 hown hK hP 0 rfl rfl 0 (by decide) (hts (.fieldLink RX3 11 "WeighingConverter$SumSet" "words" "[J") (List.mem_of_getElem? (i := 1) rfl)) (fun _ h9 => h9) rfl dX3_addShifted_65 ?_
            refine lv_iload hx hb dX3_addShifted_68 (lv_at hl 1 rfl) ?_
            refine lv_dup2_11 hx hb dX3_addShifted_70 rfl rfl ?_
            refine k_lald (k := j - 1) hx hb hK hP 1 2 rfl rfl (by omega) (by decide) dX3_addShifted_71 ?_
            refine k_topl (y := wd (j - 1)) (by rw [hg, if_neg (by omega)]) ?_
            refine lv_lload hx hb dX3_addShifted_72 (lv_at hl 0 rfl) ?_
            refine lv_lor hx hb dX3_addShifted_74 ?_
            refine k_last (k := j - 1) hx hb hK hP hD hS 1 2 rfl rfl (by omega) (by decide) dX3_addShifted_75 (fun H locs hP hD hS => ?_)
            have hP : va_P D vwCl [(u0, .inr (3, [.ref u1])), (u1, .inl (cJ, 64, .inr (.inl (vp_updL g (j - 1) ((wd (j - 1)) ||| ((wd (j - 1 - n / 64)) <<< ((nI (n % 64) : Int32).toInt64 &&& 63)))))))] H := hP
            have hD : va_D A [(u0, .inr (3, [.ref u1])), (u1, .inl (cJ, 64, .inr (.inl (vp_updL g (j - 1) ((wd (j - 1)) ||| ((wd (j - 1 - n / 64)) <<< ((nI (n % 64) : Int32).toInt64 &&& 63)))))))] := hD
            refine lv_iinc (v := (nI (j - 1)) + (-1)) (lv' := [(4, .int ((nI (j - 1)) + (-1))), (5, .long ((wd (j - 1 - n / 64)) <<< ((nI (n % 64) : Int32).toInt64 &&& 63))), (3, .int (nI (n % 64))), (2, .int (nI (n / 64))), (0, .ref u0), (1, .int (nI n))]) hx hb dX3_addShifted_76 hl (k := 1) rfl rfl (by decide) rfl (fun ls hl => ?_)
            refine lv_goto (tgt := 14) hx hb dX3_addShifted_79 (by decide) ?_
            exact ih14 (j - 1) ((nI (j - 1)) + (-1)) (vp_updL g (j - 1) ((wd (j - 1)) ||| ((wd (j - 1 - n / 64)) <<< ((nI (n % 64) : Int32).toInt64 &&& 63)))) (by first | assumption | omega) (by first | assumption | omega) (k_m1I (by omega)) (addG_step (by omega) (by omega) hg (by rw [shV]; first | rw [if_pos (by omega)] | rw [if_neg (by omega)])) (by omega) _ _ (hP.sub [0, 1] rfl) (hD.sub [0, 1] (by decide) rfl) hS _ (lv_sub hl [0, 2, 3, 4, 5] rfl)
          · have c_40 : ¬ (j - 1) ≤ (n / 64) := fun h => c_40 ((nI_leI (a := (j - 1)) (b := (n / 64)) (by omega) (by omega)).mpr h)
            refine lv_lload hx hb dX3_addShifted_43 (lv_at hl 0 rfl) ?_
            refine lv_aload_n hx hb dX3_addShifted_45 rfl (lv_at hl 4 rfl) ?_
            refine va_get (D := D) (ci := 3) (v := .ref u1) (C := RX3) (T := TX3) (N := 1) hx hb hts inX3_addShifted_3 hown hK hP 0 rfl rfl 0 (by decide) (hts (.fieldLink RX3 11 "WeighingConverter$SumSet" "words" "[J") (List.mem_of_getElem? (i := 1) rfl)) (fun _ h9 => h9) rfl dX3_addShifted_46 ?_
            refine lv_iload hx hb dX3_addShifted_49 (lv_at hl 1 rfl) ?_
            refine lv_iload_n hx hb dX3_addShifted_51 rfl (lv_at hl 3 rfl) ?_
            refine lv_isub hx hb dX3_addShifted_52 ?_
            refine k_topi (y := nI ((j - 1) - (n / 64))) (pk_sub (a := (j - 1)) (b := (n / 64)) (by omega)) ?_
            refine lv_iconst (v := 1) hx hb dX3_addShifted_53 (by decide) ?_
            refine lv_isub hx hb dX3_addShifted_54 ?_
            refine k_topi (y := nI (((j - 1) - (n / 64)) - 1)) (pk_sub (a := ((j - 1) - (n / 64))) (b := 1) (by omega)) ?_
            refine k_lald (k := ((j - 1) - (n / 64)) - 1) hx hb hK hP 1 2 rfl rfl (by omega) (by decide) dX3_addShifted_55 ?_
            refine k_topl (y := wd (j - 1 - n / 64 - 1)) (by rw [hg, if_neg (by omega)]) ?_
            refine lv_bipush (v := 64) hx hb dX3_addShifted_56 (by decide) ?_
            refine lv_iload_n hx hb dX3_addShifted_58 rfl (lv_at hl 2 rfl) ?_
            refine lv_isub hx hb dX3_addShifted_59 ?_
            refine k_topi (y := nI (64 - (n % 64))) (pk_sub (a := 64) (b := (n % 64)) (by omega)) ?_
            refine lv_lushr hx hb dX3_addShifted_60 rfl ?_
            refine lv_lor hx hb dX3_addShifted_61 ?_
            refine lv_lstore (lv' := [(5, .long (((wd (j - 1 - n / 64)) <<< ((nI (n % 64) : Int32).toInt64 &&& 63)) ||| (((wd (j - 1 - n / 64 - 1)).toUInt64 >>> ((nI (64 - (n % 64)) : Int32).toInt64.toUInt64 &&& Int64.toUInt64 63)).toInt64))), (4, .int (nI (j - 1))), (3, .int (nI (n % 64))), (2, .int (nI (n / 64))), (0, .ref u0), (1, .int (nI n))]) hx hb dX3_addShifted_62 hl (by decide) rfl (fun ls hl => ?_)
            refine lv_aload_n hx hb dX3_addShifted_64 rfl (lv_at hl 4 rfl) ?_
            refine va_get (D := D) (ci := 3) (v := .ref u1) (C := RX3) (T := TX3) (N := 1) hx hb hts inX3_addShifted_3 hown hK hP 0 rfl rfl 0 (by decide) (hts (.fieldLink RX3 11 "WeighingConverter$SumSet" "words" "[J") (List.mem_of_getElem? (i := 1) rfl)) (fun _ h9 => h9) rfl dX3_addShifted_65 ?_
            refine lv_iload hx hb dX3_addShifted_68 (lv_at hl 1 rfl) ?_
            refine lv_dup2_11 hx hb dX3_addShifted_70 rfl rfl ?_
            refine k_lald (k := j - 1) hx hb hK hP 1 2 rfl rfl (by omega) (by decide) dX3_addShifted_71 ?_
            refine k_topl (y := wd (j - 1)) (by rw [hg, if_neg (by omega)]) ?_
            refine lv_lload hx hb dX3_addShifted_72 (lv_at hl 0 rfl) ?_
            refine lv_lor hx hb dX3_addShifted_74 ?_
            refine k_last (k := j - 1) hx hb hK hP hD hS 1 2 rfl rfl (by omega) (by decide) dX3_addShifted_75 (fun H locs hP hD hS => ?_)
            have hP : va_P D vwCl [(u0, .inr (3, [.ref u1])), (u1, .inl (cJ, 64, .inr (.inl (vp_updL g (j - 1) ((wd (j - 1)) ||| (((wd (j - 1 - n / 64)) <<< ((nI (n % 64) : Int32).toInt64 &&& 63)) ||| (((wd (j - 1 - n / 64 - 1)).toUInt64 >>> ((nI (64 - (n % 64)) : Int32).toInt64.toUInt64 &&& Int64.toUInt64 63)).toInt64)))))))] H := hP
            have hD : va_D A [(u0, .inr (3, [.ref u1])), (u1, .inl (cJ, 64, .inr (.inl (vp_updL g (j - 1) ((wd (j - 1)) ||| (((wd (j - 1 - n / 64)) <<< ((nI (n % 64) : Int32).toInt64 &&& 63)) ||| (((wd (j - 1 - n / 64 - 1)).toUInt64 >>> ((nI (64 - (n % 64)) : Int32).toInt64.toUInt64 &&& Int64.toUInt64 63)).toInt64)))))))] := hD
            refine lv_iinc (v := (nI (j - 1)) + (-1)) (lv' := [(4, .int ((nI (j - 1)) + (-1))), (5, .long (((wd (j - 1 - n / 64)) <<< ((nI (n % 64) : Int32).toInt64 &&& 63)) ||| (((wd (j - 1 - n / 64 - 1)).toUInt64 >>> ((nI (64 - (n % 64)) : Int32).toInt64.toUInt64 &&& Int64.toUInt64 63)).toInt64))), (3, .int (nI (n % 64))), (2, .int (nI (n / 64))), (0, .ref u0), (1, .int (nI n))]) hx hb dX3_addShifted_76 hl (k := 1) rfl rfl (by decide) rfl (fun ls hl => ?_)
            refine lv_goto (tgt := 14) hx hb dX3_addShifted_79 (by decide) ?_
            exact ih14 (j - 1) ((nI (j - 1)) + (-1)) (vp_updL g (j - 1) ((wd (j - 1)) ||| (((wd (j - 1 - n / 64)) <<< ((nI (n % 64) : Int32).toInt64 &&& 63)) ||| (((wd (j - 1 - n / 64 - 1)).toUInt64 >>> ((nI (64 - (n % 64)) : Int32).toInt64.toUInt64 &&& Int64.toUInt64 63)).toInt64)))) (by first | assumption | omega) (by first | assumption | omega) (k_m1I (by omega)) (addG_step (by omega) (by omega) hg (by rw [shV]; first | rw [if_pos (by omega)] | rw [if_neg (by omega)])) (by omega) _ _ (hP.sub [0, 1] rfl) (hD.sub [0, 1] (by decide) rfl) hS _ (lv_sub hl [0, 2, 3, 4, 5] rfl)
  exact J14 (64 + 1) 64 63 wd (by first | assumption | omega) (by first | assumption | omega) (by decide) (fun w9 => by rw [if_neg (by omega)]) (Nat.lt_succ_self _) _ _ (hP.sub [0, 1] rfl) (hD.sub [0, 1] (by decide) rfl) hS _ (lv_sub hl [0, 1, 2, 3, 4] rfl)

theorem inX3_fill_3 : ∀ w ∈ wsX30, w ∈ wsX3_fill := fun _ h => List.mem_cons_of_mem _ (List.mem_append_left _ (List.mem_append_right _ h))
theorem inX3_fill_6 : ∀ w ∈ wsX60, w ∈ wsX3_fill := fun _ h => List.mem_cons_of_mem _ (List.mem_append_right _ h)
abbrev rmkX3_fill : Room := { frames := 1, cells := 0, slots := 0, locals := 26 }
set_option maxHeartbeats 4000000 in
set_option maxRecDepth 100000 in
theorem kX3_fill (l : Launch) (D : va_G) (sz : Nat) (cI : ClassId) (cC : ClassId) (cJ : ClassId) (cZ : ClassId) (cQ : ClassId) (u0 : Nat) (u1 : Nat) (w0 : Nat) (w1 : Nat) (wc : Nat) (wd : Nat → Int64) (f : Nat → Int32) (hwc : wc ≤ 12) (hf : ∀ k, k < wc → 0 ≤ (f k).toInt ∧ (f k).toInt ≤ 2048) : Met l yX3_fill wsX3_fill rmkX3_fill (va_Pc [.ref u0, .ref w0] (kPre D sz [(u0, .inr (3, [.ref u1])), (u1, .inl (cJ, 64, .inr (.inl wd))), (w0, .inr (6, [.ref w1, .int (nI wc)])), (w1, .inl (cI, 12, .inl f))] (kT cI cC cJ cZ cQ))) (kQv D [(u0, .inr (3, [.ref u1])), (u1, .inl (cJ, 64, .inr (.inl (fillG f wc)))), (w0, .inr (6, [.ref w1, .int (nI wc)])), (w1, .inl (cI, 12, .inl f))] (va_A [(u0, .inr (3, [.ref u1])), (u1, .inl (cJ, 64, .inr (.inl wd))), (w0, .inr (6, [.ref w1, .int (nI wc)])), (w1, .inl (cI, 12, .inl f))] sz)) 0 0 (va_A [(u0, .inr (3, [.ref u1])), (u1, .inl (cJ, 64, .inr (.inl wd))), (w0, .inr (6, [.ref w1, .int (nI wc)])), (w1, .inl (cI, 12, .inl f))] sz) := by
  refine k_met (Qf := kQv D [(u0, .inr (3, [.ref u1])), (u1, .inl (cJ, 64, .inr (.inl (fillG f wc)))), (w0, .inr (6, [.ref w1, .int (nI wc)])), (w1, .inl (cI, 12, .inl f))]) (cc := cX3_fill) (maxL := 3) (ret := none) (own := RX3) (by decide) rfl (Nat.le_of_ble_eq_true rfl) rfl ?_
  intro p e s m args below meth c ls A H locs hx hb hr hts hown hlocks hml hin hsz hP hK hD hA hS hN hl
  have hl : lv_has ls 3 [(0, .ref u0), (1, .ref w0)] := hl
  refine lv_iconst (v := 0) hx hb dX3_fill_0 (by decide) ?_
  refine lv_istore_n (lv' := [(2, .int 0), (0, .ref u0), (1, .ref w0)]) hx hb dX3_fill_1 rfl hl (by decide) rfl (fun ls hl => ?_)
  have J2 : ∀ (fuel : Nat) (k : Nat) (g : Nat → Int64) (hk : k ≤ 64) (hg : ∀ w, w < k → g w = 0) (hm : 64 - k < fuel) (H : Heap) (locs : List Loc) (hP : va_P D vwCl [(u0, .inr (3, [.ref u1])), (u1, .inl (cJ, 64, .inr (.inl g))), (w0, .inr (6, [.ref w1, .int (nI wc)])), (w1, .inl (cI, 12, .inl f))] H) (hD : va_D A [(u0, .inr (3, [.ref u1])), (u1, .inl (cJ, 64, .inr (.inl g))), (w0, .inr (6, [.ref w1, .int (nI wc)])), (w1, .inl (cI, 12, .inl f))]) (hS : va_S A s.heap H locs) (ls : Array Slot) (hl : lv_has ls 3 [(2, .int (nI k)), (0, .ref u0), (1, .ref w0)]), W p l e rmkX3_fill s m args below meth c H locs 0 0 (MQ below (kQv D [(u0, .inr (3, [.ref u1])), (u1, .inl (cJ, 64, .inr (.inl (fillG f wc)))), (w0, .inr (6, [.ref w1, .int (nI wc)])), (w1, .inl (cI, 12, .inl f))] A) args s 0 0 A) (F0 m 2 ls []) := by
    intro fuel
    induction fuel with
    | zero => intro k g hk hg hm; exact absurd hm (Nat.not_lt_zero _)
    | succ fuel ih2 =>
      intro k g hk hg hm H locs hP hD hS ls hl
      refine lv_iload_n hx hb dX3_fill_2 rfl (lv_at hl 0 rfl) ?_
      refine lv_bipush (v := 64) hx hb dX3_fill_3 (by decide) ?_
      refine lv_icmp_ge (tgt := 21) hx hb dX3_fill_5 (by decide) (fun c_5 => ?_) (fun c_5 => ?_)
      · have c_5 : 64 ≤ k := (nI_leI (a := 64) (b := k) (by omega) (by omega)).mp c_5
        refine lv_aload_n hx hb dX3_fill_21 rfl (lv_at hl 1 rfl) ?_
        refine va_get (D := D) (ci := 3) (v := .ref u1) (C := RX3) (T := TX3) (N := 1) hx hb hts inX3_fill_3 hown hK hP 0 rfl rfl 0 (by decide) (hts (.fieldLink RX3 11 "WeighingConverter$SumSet" "words" "[J") (List.mem_of_getElem? (i := 1) rfl)) (fun _ h9 => h9) rfl dX3_fill_22 ?_
        refine lv_iconst (v := 0) hx hb dX3_fill_25 (by decide) ?_
        refine lv_lconst (v := 1) hx hb dX3_fill_26 rfl ?_
        refine k_last (k := 0) hx hb hK hP hD hS 1 2 rfl rfl (by omega) (by decide) dX3_fill_27 (fun H locs hP hD hS => ?_)
        have hP : va_P D vwCl [(u0, .inr (3, [.ref u1])), (u1, .inl (cJ, 64, .inr (.inl (vp_updL g 0 1)))), (w0, .inr (6, [.ref w1, .int (nI wc)])), (w1, .inl (cI, 12, .inl f))] H := hP
        have hD : va_D A [(u0, .inr (3, [.ref u1])), (u1, .inl (cJ, 64, .inr (.inl (vp_updL g 0 1)))), (w0, .inr (6, [.ref w1, .int (nI wc)])), (w1, .inl (cI, 12, .inl f))] := hD
        have hP := k_arrL hP 1 rfl (g := fillG f 0) (zer_one (by omega) hg)
        have hD := hD.set (p := 1) (e := .inl (cJ, 64, .inr (.inl (fillG f 0)))) rfl
        have hP : va_P D vwCl [(u0, .inr (3, [.ref u1])), (u1, .inl (cJ, 64, .inr (.inl (fillG f 0)))), (w0, .inr (6, [.ref w1, .int (nI wc)])), (w1, .inl (cI, 12, .inl f))] H := hP
        have hD : va_D A [(u0, .inr (3, [.ref u1])), (u1, .inl (cJ, 64, .inr (.inl (fillG f 0)))), (w0, .inr (6, [.ref w1, .int (nI wc)])), (w1, .inl (cI, 12, .inl f))] := hD
        refine lv_iconst (v := 0) hx hb dX3_fill_28 (by decide) ?_
        refine lv_istore_n (lv' := [(2, .int 0), (0, .ref u0), (1, .ref w0)]) hx hb dX3_fill_29 rfl hl (by decide) rfl (fun ls hl => ?_)
        have J30 : ∀ (fuel : Nat) (k2 : Nat) (hk2 : k2 ≤ wc) (hm : wc - k2 < fuel) (H : Heap) (locs : List Loc) (hP : va_P D vwCl [(u0, .inr (3, [.ref u1])), (u1, .inl (cJ, 64, .inr (.inl (fillG f k2)))), (w0, .inr (6, [.ref w1, .int (nI wc)])), (w1, .inl (cI, 12, .inl f))] H) (hD : va_D A [(u0, .inr (3, [.ref u1])), (u1, .inl (cJ, 64, .inr (.inl (fillG f k2)))), (w0, .inr (6, [.ref w1, .int (nI wc)])), (w1, .inl (cI, 12, .inl f))]) (hS : va_S A s.heap H locs) (ls : Array Slot) (hl : lv_has ls 3 [(2, .int (nI k2)), (0, .ref u0), (1, .ref w0)]), W p l e rmkX3_fill s m args below meth c H locs 0 0 (MQ below (kQv D [(u0, .inr (3, [.ref u1])), (u1, .inl (cJ, 64, .inr (.inl (fillG f wc)))), (w0, .inr (6, [.ref w1, .int (nI wc)])), (w1, .inl (cI, 12, .inl f))] A) args s 0 0 A) (F0 m 30 ls []) := by
          intro fuel
          induction fuel with
          | zero => intro k2 hk2 hm; exact absurd hm (Nat.not_lt_zero _)
          | succ fuel ih30 =>
            intro k2 hk2 hm H locs hP hD hS ls hl
            refine lv_iload_n hx hb dX3_fill_30 rfl (lv_at hl 0 rfl) ?_
            refine lv_aload_n hx hb dX3_fill_31 rfl (lv_at hl 2 rfl) ?_
            refine va_get (D := D) (ci := 6) (v := .int (nI wc)) (C := RX6) (T := TX6) (N := 2) hx hb hts inX3_fill_6 hown hK hP 2 rfl rfl 1 (by decide) (hts (.fieldLink RX3 15 "WeighingConverter$Weights" "count" "I") (List.mem_of_getElem? (i := 2) rfl)) (fun _ h9 => h9) rfl dX3_fill_32 ?_
            refine lv_icmp_ge (tgt := 54) hx hb dX3_fill_35 (by decide) (fun c_35 => ?_) (fun c_35 => ?_)
            · have c_35 : wc ≤ k2 := (nI_leI (a := wc) (b := k2) (by omega) (by omega)).mp c_35
              have hP := k_arrL hP 1 rfl (g := fillG f wc) (fun _ _ => by rw [show k2 = wc from by omega])
              have hD := hD.set (p := 1) (e := .inl (cJ, 64, .inr (.inl (fillG f wc)))) rfl
              have hP : va_P D vwCl [(u0, .inr (3, [.ref u1])), (u1, .inl (cJ, 64, .inr (.inl (fillG f wc)))), (w0, .inr (6, [.ref w1, .int (nI wc)])), (w1, .inl (cI, 12, .inl f))] H := hP
              have hD : va_D A [(u0, .inr (3, [.ref u1])), (u1, .inl (cJ, 64, .inr (.inl (fillG f wc)))), (w0, .inr (6, [.ref w1, .int (nI wc)])), (w1, .inl (cI, 12, .inl f))] := hD
              have hP9 := hP.sub (ws' := [(u0, .inr (3, [.ref u1])), (u1, .inl (cJ, 64, .inr (.inl (fillG f wc)))), (w0, .inr (6, [.ref w1, .int (nI wc)])), (w1, .inl (cI, 12, .inl f))]) [0, 1, 2, 3] rfl
              have hD9 := hD.sub (ws' := [(u0, .inr (3, [.ref u1])), (u1, .inl (cJ, 64, .inr (.inl (fillG f wc)))), (w0, .inr (6, [.ref w1, .int (nI wc)])), (w1, .inl (cI, 12, .inl f))]) [0, 1, 2, 3] (by decide) rfl
              exact kr_v hx hb hr hlocks hP9 hD9 hS dX3_fill_54
            · have c_35 : ¬ wc ≤ k2 := fun h => c_35 ((nI_leI (a := wc) (b := k2) (by omega) (by omega)).mpr h)
              refine lv_aload_n hx hb dX3_fill_38 rfl (lv_at hl 1 rfl) ?_
              refine lv_aload_n hx hb dX3_fill_39 rfl (lv_at hl 2 rfl) ?_
              refine va_get (D := D) (ci := 6) (v := .ref w1) (C := RX6) (T := TX6) (N := 2) hx hb hts inX3_fill_6 hown hK hP 2 rfl rfl 0 (by decide) (hts (.fieldLink RX3 21 "WeighingConverter$Weights" "sizes" "[I") (List.mem_of_getElem? (i := 3) rfl)) (fun _ h9 => h9) rfl dX3_fill_40 ?_
              refine lv_iload_n hx hb dX3_fill_43 rfl (lv_at hl 0 rfl) ?_
              refine k_iald (k := k2) hx hb hK hP 3 0 rfl rfl (by omega) (by decide) dX3_fill_44 ?_
              refine k_topi (y := nI (wN (f k2))) (nI_wN (hf k2 (by omega)).1).symm ?_
              refine kv_v (As := [.int (nI (wN (f k2)))]) (rest := []) (wr := [(w0, .inr (6, [.ref w1, .int (nI wc)])), (w1, .inl (cI, 12, .inl f))]) ⟨hx, hb, hml, hown, hts⟩ (kX3_addShifted l D H.size cI cC cJ cZ cQ u0 u1 (fillG f k2) (wN (f k2)) (wN_le (hf k2 (by omega)).2)) (cwV 1 hts gX3_fill_X3_addShifted rfl rfl rfl (by decide +kernel) ⟨Nat.le_of_ble_eq_true rfl, Nat.le_of_ble_eq_true rfl⟩) hP hD hK hS hA hN [0, 1] [2, 3] rfl rfl (by decide) (by decide) (by decide) 0 3 rfl rfl rfl rfl hl.1 rfl (Nat.le_of_ble_eq_true rfl) dX3_fill_45 ⟨Nat.zero_le _, Nat.zero_le _⟩ (fun H locs hP hD hS => ?_)
              have hP : va_P D vwCl [(w0, .inr (6, [.ref w1, .int (nI wc)])), (w1, .inl (cI, 12, .inl f)), (u0, .inr (3, [.ref u1])), (u1, .inl (cJ, 64, .inr (.inl (addG (fillG f k2) (wN (f k2))))))] H := hP
              have hD : va_D A [(w0, .inr (6, [.ref w1, .int (nI wc)])), (w1, .inl (cI, 12, .inl f)), (u0, .inr (3, [.ref u1])), (u1, .inl (cJ, 64, .inr (.inl (addG (fillG f k2) (wN (f k2))))))] := hD
              refine lv_iinc (v := nI (k2 + 1)) (lv' := [(2, .int (nI (k2 + 1))), (0, .ref u0), (1, .ref w0)]) hx hb dX3_fill_48 hl (k := 0) rfl (by exact k_inc k2) (by decide) rfl (fun ls hl => ?_)
              refine lv_goto (tgt := 30) hx hb dX3_fill_51 (by decide) ?_
              exact ih30 (k2 + 1) (by first | assumption | omega) (by omega) _ _ (hP.sub [2, 3, 0, 1] rfl) (hD.sub [2, 3, 0, 1] (by decide) rfl) hS _ (lv_sub hl [0, 1, 2] rfl)
        exact J30 (wc - 0 + 1) 0 (by first | assumption | omega) (Nat.lt_succ_self _) _ _ (hP.sub [0, 1, 2, 3] rfl) (hD.sub [0, 1, 2, 3] (by decide) rfl) hS _ (lv_sub hl [0, 1, 2] rfl)
      · have c_5 : ¬ 64 ≤ k := fun h => c_5 ((nI_leI (a := 64) (b := k) (by omega) (by omega)).mpr h)
        refine lv_aload_n hx hb dX3_fill_8 rfl (lv_at hl 1 rfl) ?_
        refine va_get (D := D) (ci := 3) (v := .ref u1) (C := RX3) (T := TX3) (N := 1) hx hb hts inX3_fill_3 hown hK hP 0 rfl rfl 0 (by decide) (hts (.fieldLink RX3 11 "WeighingConverter$SumSet" "words" "[J") (List.mem_of_getElem? (i := 1) rfl)) (fun _ h9 => h9) rfl dX3_fill_9 ?_
        refine lv_iload_n hx hb dX3_fill_12 rfl (lv_at hl 0 rfl) ?_
        refine lv_lconst (v := 0) hx hb dX3_fill_13 rfl ?_
        refine k_last (k := k) hx hb hK hP hD hS 1 2 rfl rfl (by omega) (by decide) dX3_fill_14 (fun H locs hP hD hS => ?_)
        have hP : va_P D vwCl [(u0, .inr (3, [.ref u1])), (u1, .inl (cJ, 64, .inr (.inl (vp_updL g k 0)))), (w0, .inr (6, [.ref w1, .int (nI wc)])), (w1, .inl (cI, 12, .inl f))] H := hP
        have hD : va_D A [(u0, .inr (3, [.ref u1])), (u1, .inl (cJ, 64, .inr (.inl (vp_updL g k 0)))), (w0, .inr (6, [.ref w1, .int (nI wc)])), (w1, .inl (cI, 12, .inl f))] := hD
        refine lv_iinc (v := nI (k + 1)) (lv' := [(2, .int (nI (k + 1))), (0, .ref u0), (1, .ref w0)]) hx hb dX3_fill_15 hl (k := 0) rfl (by exact k_inc k) (by decide) rfl (fun ls hl => ?_)
        refine lv_goto (tgt := 2) hx hb dX3_fill_18 (by decide) ?_
        exact ih2 (k + 1) (vp_updL g k 0) (by first | assumption | omega) (zer_step hg) (by omega) _ _ (hP.sub [0, 1, 2, 3] rfl) (hD.sub [0, 1, 2, 3] (by decide) rfl) hS _ (lv_sub hl [0, 1, 2] rfl)
  exact J2 (64 - 0 + 1) 0 wd (by first | assumption | omega) (fun w9 h9 => absurd h9 (Nat.not_lt_zero _)) (Nat.lt_succ_self _) _ _ (hP.sub [0, 1, 2, 3] rfl) (hD.sub [0, 1, 2, 3] (by decide) rfl) hS _ (lv_sub hl [0, 1, 2] rfl)

abbrev rmkJ13_bitCount_95d88 : Room := { frames := 0, cells := 0, slots := 0, locals := 0 }
set_option maxHeartbeats 4000000 in
set_option maxRecDepth 100000 in
theorem kJ13_bitCount_95d88 (l : Launch) (x : Int64) : Met l yJ13_bitCount_95d88 wsJ13_bitCount_95d88 rmkJ13_bitCount_95d88 (va_Pc [.long x] (fun _ => True)) (kPi (bitC x)) 0 0 (fun _ => False) := by
  refine k_met0 (cc := cJ13_bitCount_95d88) (maxL := 2) (ret := (some .int)) (own := RJ13) (by decide) rfl (Nat.le_of_ble_eq_true rfl) rfl ?_
  intro p e s m args below meth c ls H locs hx hb hr hts hown hlocks hml hS hl
  have hl : lv_has ls 2 [(0, .long x)] := hl
  refine lv_lload_n hx hb dJ13_bitCount_95d88_0 rfl (lv_at hl 0 rfl) ?_
  refine lv_lload_n hx hb dJ13_bitCount_95d88_1 rfl (lv_at hl 0 rfl) ?_
  refine lv_iconst (v := 1) hx hb dJ13_bitCount_95d88_2 (by decide) ?_
  refine lv_lushr hx hb dJ13_bitCount_95d88_3 rfl ?_
  refine lv_ldc2 hx hb hown (hts (.constantLong RJ13 314 (6148914691236517205)) (List.mem_of_getElem? (i := 1) rfl)) dJ13_bitCount_95d88_4 ?_
  refine lv_land hx hb dJ13_bitCount_95d88_7 ?_
  refine lv_lsub hx hb dJ13_bitCount_95d88_8 ?_
  refine lv_topl (fun a1 ea1 => ?_)
  refine lv_lstore_n (lv' := [(0, .long a1)]) hx hb dJ13_bitCount_95d88_9 rfl hl (by decide) rfl (fun ls hl => ?_)
  refine lv_lload_n hx hb dJ13_bitCount_95d88_10 rfl (lv_at hl 0 rfl) ?_
  refine lv_ldc2 hx hb hown (hts (.constantLong RJ13 316 (3689348814741910323)) (List.mem_of_getElem? (i := 2) rfl)) dJ13_bitCount_95d88_11 ?_
  refine lv_land hx hb dJ13_bitCount_95d88_14 ?_
  refine lv_lload_n hx hb dJ13_bitCount_95d88_15 rfl (lv_at hl 0 rfl) ?_
  refine lv_iconst (v := 2) hx hb dJ13_bitCount_95d88_16 (by decide) ?_
  refine lv_lushr hx hb dJ13_bitCount_95d88_17 rfl ?_
  refine lv_ldc2 hx hb hown (hts (.constantLong RJ13 316 (3689348814741910323)) (List.mem_of_getElem? (i := 2) rfl)) dJ13_bitCount_95d88_18 ?_
  refine lv_land hx hb dJ13_bitCount_95d88_21 ?_
  refine lv_ladd hx hb dJ13_bitCount_95d88_22 ?_
  refine lv_topl (fun a2 ea2 => ?_)
  refine lv_lstore_n (lv' := [(0, .long a2)]) hx hb dJ13_bitCount_95d88_23 rfl hl (by decide) rfl (fun ls hl => ?_)
  refine lv_lload_n hx hb dJ13_bitCount_95d88_24 rfl (lv_at hl 0 rfl) ?_
  refine lv_lload_n hx hb dJ13_bitCount_95d88_25 rfl (lv_at hl 0 rfl) ?_
  refine lv_iconst (v := 4) hx hb dJ13_bitCount_95d88_26 (by decide) ?_
  refine lv_lushr hx hb dJ13_bitCount_95d88_27 rfl ?_
  refine lv_ladd hx hb dJ13_bitCount_95d88_28 ?_
  refine lv_ldc2 hx hb hown (hts (.constantLong RJ13 318 (1085102592571150095)) (List.mem_of_getElem? (i := 3) rfl)) dJ13_bitCount_95d88_29 ?_
  refine lv_land hx hb dJ13_bitCount_95d88_32 ?_
  refine lv_topl (fun a3 ea3 => ?_)
  refine lv_lstore_n (lv' := [(0, .long a3)]) hx hb dJ13_bitCount_95d88_33 rfl hl (by decide) rfl (fun ls hl => ?_)
  refine lv_lload_n hx hb dJ13_bitCount_95d88_34 rfl (lv_at hl 0 rfl) ?_
  refine lv_lload_n hx hb dJ13_bitCount_95d88_35 rfl (lv_at hl 0 rfl) ?_
  refine lv_bipush (v := 8) hx hb dJ13_bitCount_95d88_36 (by decide) ?_
  refine lv_lushr hx hb dJ13_bitCount_95d88_38 rfl ?_
  refine lv_ladd hx hb dJ13_bitCount_95d88_39 ?_
  refine lv_topl (fun a4 ea4 => ?_)
  refine lv_lstore_n (lv' := [(0, .long a4)]) hx hb dJ13_bitCount_95d88_40 rfl hl (by decide) rfl (fun ls hl => ?_)
  refine lv_lload_n hx hb dJ13_bitCount_95d88_41 rfl (lv_at hl 0 rfl) ?_
  refine lv_lload_n hx hb dJ13_bitCount_95d88_42 rfl (lv_at hl 0 rfl) ?_
  refine lv_bipush (v := 16) hx hb dJ13_bitCount_95d88_43 (by decide) ?_
  refine lv_lushr hx hb dJ13_bitCount_95d88_45 rfl ?_
  refine lv_ladd hx hb dJ13_bitCount_95d88_46 ?_
  refine lv_topl (fun a5 ea5 => ?_)
  refine lv_lstore_n (lv' := [(0, .long a5)]) hx hb dJ13_bitCount_95d88_47 rfl hl (by decide) rfl (fun ls hl => ?_)
  refine lv_lload_n hx hb dJ13_bitCount_95d88_48 rfl (lv_at hl 0 rfl) ?_
  refine lv_lload_n hx hb dJ13_bitCount_95d88_49 rfl (lv_at hl 0 rfl) ?_
  refine lv_bipush (v := 32) hx hb dJ13_bitCount_95d88_50 (by decide) ?_
  refine lv_lushr hx hb dJ13_bitCount_95d88_52 rfl ?_
  refine lv_ladd hx hb dJ13_bitCount_95d88_53 ?_
  refine lv_topl (fun a6 ea6 => ?_)
  refine lv_lstore_n (lv' := [(0, .long a6)]) hx hb dJ13_bitCount_95d88_54 rfl hl (by decide) rfl (fun ls hl => ?_)
  refine lv_lload_n hx hb dJ13_bitCount_95d88_55 rfl (lv_at hl 0 rfl) ?_
  refine lv_l2i hx hb dJ13_bitCount_95d88_56 rfl ?_
  refine lv_bipush (v := 127) hx hb dJ13_bitCount_95d88_57 (by decide) ?_
  refine lv_iand hx hb dJ13_bitCount_95d88_59 ?_
  exact kr_i0 (v := ((a6 : Int64).toInt32) &&& 127) hx hb hr hlocks hS (by rw [ea6, ea5, ea4, ea3, ea2, ea1]; rfl) dJ13_bitCount_95d88_60

theorem inX3_count_3 : ∀ w ∈ wsX30, w ∈ wsX3_count := fun _ h => List.mem_cons_of_mem _ (List.mem_append_right _ h)
abbrev rmkX3_count : Room := { frames := 1, cells := 0, slots := 0, locals := 21 }
set_option maxHeartbeats 4000000 in
set_option maxRecDepth 100000 in
theorem kX3_count (l : Launch) (D : va_G) (sz : Nat) (cI : ClassId) (cC : ClassId) (cJ : ClassId) (cZ : ClassId) (cQ : ClassId) (u0 : Nat) (u1 : Nat) (wd : Nat → Int64) : Met l yX3_count wsX3_count rmkX3_count (va_Pc [.ref u0] (kPre D sz [(u0, .inr (3, [.ref u1])), (u1, .inl (cJ, 64, .inr (.inl wd)))] (kT cI cC cJ cZ cQ))) (kQi D (cntL wd 64) [(u0, .inr (3, [.ref u1])), (u1, .inl (cJ, 64, .inr (.inl wd)))] (va_A [(u0, .inr (3, [.ref u1])), (u1, .inl (cJ, 64, .inr (.inl wd)))] sz)) 0 0 (va_A [(u0, .inr (3, [.ref u1])), (u1, .inl (cJ, 64, .inr (.inl wd)))] sz) := by
  refine k_met (Qf := kQi D (cntL wd 64) [(u0, .inr (3, [.ref u1])), (u1, .inl (cJ, 64, .inr (.inl wd)))]) (cc := cX3_count) (maxL := 3) (ret := (some .int)) (own := RX3) (by decide) rfl (Nat.le_of_ble_eq_true rfl) rfl ?_
  intro p e s m args below meth c ls A H locs hx hb hr hts hown hlocks hml hin hsz hP hK hD hA hS hN hl
  have hl : lv_has ls 3 [(0, .ref u0)] := hl
  refine lv_iconst (v := 0) hx hb dX3_count_0 (by decide) ?_
  refine lv_istore_n (lv' := [(1, .int 0), (0, .ref u0)]) hx hb dX3_count_1 rfl hl (by decide) rfl (fun ls hl => ?_)
  refine lv_iconst (v := 0) hx hb dX3_count_2 (by decide) ?_
  refine lv_istore_n (lv' := [(2, .int 0), (1, .int 0), (0, .ref u0)]) hx hb dX3_count_3 rfl hl (by decide) rfl (fun ls hl => ?_)
  have J4 : ∀ (fuel : Nat) (k : Nat) (hk : k ≤ 64) (hm : 64 - k < fuel) (H : Heap) (locs : List Loc) (hP : va_P D vwCl [(u0, .inr (3, [.ref u1])), (u1, .inl (cJ, 64, .inr (.inl wd)))] H) (hD : va_D A [(u0, .inr (3, [.ref u1])), (u1, .inl (cJ, 64, .inr (.inl wd)))]) (hS : va_S A s.heap H locs) (ls : Array Slot) (hl : lv_has ls 3 [(2, .int (nI k)), (1, .int (cntL wd k)), (0, .ref u0)]), W p l e rmkX3_count s m args below meth c H locs 0 0 (MQ below (kQi D (cntL wd 64) [(u0, .inr (3, [.ref u1])), (u1, .inl (cJ, 64, .inr (.inl wd)))] A) args s 0 0 A) (F0 m 4 ls []) := by
    intro fuel
    induction fuel with
    | zero => intro k hk hm; exact absurd hm (Nat.not_lt_zero _)
    | succ fuel ih4 =>
      intro k hk hm H locs hP hD hS ls hl
      refine lv_iload_n hx hb dX3_count_4 rfl (lv_at hl 0 rfl) ?_
      refine lv_bipush (v := 64) hx hb dX3_count_5 (by decide) ?_
      refine lv_icmp_ge (tgt := 28) hx hb dX3_count_7 (by decide) (fun c_7 => ?_) (fun c_7 => ?_)
      · have c_7 : 64 ≤ k := (nI_leI (a := 64) (b := k) (by omega) (by omega)).mp c_7
        refine lv_iload_n hx hb dX3_count_28 rfl (lv_at hl 1 rfl) ?_
        have hP9 := hP.sub (ws' := [(u0, .inr (3, [.ref u1])), (u1, .inl (cJ, 64, .inr (.inl wd)))]) [0, 1] rfl
        have hD9 := hD.sub (ws' := [(u0, .inr (3, [.ref u1])), (u1, .inl (cJ, 64, .inr (.inl wd)))]) [0, 1] (by decide) rfl
        exact kr_i (v := cntL wd k) hx hb hr hlocks hP9 hD9 hS (by rw [show k = 64 from by omega]) dX3_count_29
      · have c_7 : ¬ 64 ≤ k := fun h => c_7 ((nI_leI (a := 64) (b := k) (by omega) (by omega)).mpr h)
        refine lv_iload_n hx hb dX3_count_10 rfl (lv_at hl 1 rfl) ?_
        refine lv_aload_n hx hb dX3_count_11 rfl (lv_at hl 2 rfl) ?_
        refine va_get (D := D) (ci := 3) (v := .ref u1) (C := RX3) (T := TX3) (N := 1) hx hb hts inX3_count_3 hown hK hP 0 rfl rfl 0 (by decide) (hts (.fieldLink RX3 11 "WeighingConverter$SumSet" "words" "[J") (List.mem_of_getElem? (i := 1) rfl)) (fun _ h9 => h9) rfl dX3_count_12 ?_
        refine lv_iload_n hx hb dX3_count_15 rfl (lv_at hl 0 rfl) ?_
        refine k_lald (k := k) hx hb hK hP 1 2 rfl rfl (by omega) (by decide) dX3_count_16 ?_
        refine ks_i0 (As := [.long (wd k)]) (rest := [.int (cntL wd k)]) ⟨hx, hb, hml, hown, hts⟩ (kJ13_bitCount_95d88 l (wd k)) (va_cwS 1 hts gX3_count_J13_bitCount_95d88 rfl rfl rfl (by decide +kernel) ⟨Nat.le_of_ble_eq_true rfl, Nat.le_of_ble_eq_true rfl⟩) hP hS rfl hl.1 rfl (Nat.le_of_ble_eq_true rfl) dX3_count_17 ⟨Nat.zero_le _, Nat.zero_le _⟩ (fun H locs hP hS => ?_)
        refine lv_iadd hx hb dX3_count_20 ?_
        refine lv_istore_n (lv' := [(1, .int ((cntL wd k) + (bitC (wd k)))), (2, .int (nI k)), (0, .ref u0)]) hx hb dX3_count_21 rfl hl (by decide) rfl (fun ls hl => ?_)
        refine lv_iinc (v := nI (k + 1)) (lv' := [(2, .int (nI (k + 1))), (1, .int ((cntL wd k) + (bitC (wd k)))), (0, .ref u0)]) hx hb dX3_count_22 hl (k := 1) rfl (by exact k_inc k) (by decide) rfl (fun ls hl => ?_)
        refine lv_goto (tgt := 4) hx hb dX3_count_25 (by decide) ?_
        exact ih4 (k + 1) (by first | assumption | omega) (by omega) _ _ (hP.sub [0, 1] rfl) (hD.sub [0, 1] (by decide) rfl) hS _ (lv_sub hl [0, 1, 2] rfl)
  exact J4 (64 - 0 + 1) 0 (by first | assumption | omega) (Nat.lt_succ_self _) _ _ (hP.sub [0, 1] rfl) (hD.sub [0, 1] (by decide) rfl) hS _ (lv_sub hl [0, 1, 2] rfl)

theorem inX3_leastMissingSum_3 : ∀ w ∈ wsX30, w ∈ wsX3_leastMissingSum := fun _ h => List.mem_cons_of_mem _ (List.mem_append_right _ h)
abbrev rmkX3_leastMissingSum : Room := { frames := 0, cells := 0, slots := 0, locals := 0 }
set_option maxHeartbeats 4000000 in
set_option maxRecDepth 100000 in
theorem kX3_leastMissingSum (l : Launch) (D : va_G) (sz : Nat) (cI : ClassId) (cC : ClassId) (cJ : ClassId) (cZ : ClassId) (cQ : ClassId) (u0 : Nat) (u1 : Nat) (wd : Nat → Int64) : Met l yX3_leastMissingSum wsX3_leastMissingSum rmkX3_leastMissingSum (va_Pc [.ref u0] (kPre D sz [(u0, .inr (3, [.ref u1])), (u1, .inl (cJ, 64, .inr (.inl wd)))] (kT cI cC cJ cZ cQ))) (kQi D (nI (lmGo wd 4095 1)) [(u0, .inr (3, [.ref u1])), (u1, .inl (cJ, 64, .inr (.inl wd)))] (va_A [(u0, .inr (3, [.ref u1])), (u1, .inl (cJ, 64, .inr (.inl wd)))] sz)) 0 0 (va_A [(u0, .inr (3, [.ref u1])), (u1, .inl (cJ, 64, .inr (.inl wd)))] sz) := by
  refine k_met (Qf := kQi D (nI (lmGo wd 4095 1)) [(u0, .inr (3, [.ref u1])), (u1, .inl (cJ, 64, .inr (.inl wd)))]) (cc := cX3_leastMissingSum) (maxL := 2) (ret := (some .int)) (own := RX3) (by decide) rfl (Nat.le_of_ble_eq_true rfl) rfl ?_
  intro p e s m args below meth c ls A H locs hx hb hr hts hown hlocks hml hin hsz hP hK hD hA hS hN hl
  have hl : lv_has ls 2 [(0, .ref u0)] := hl
  refine lv_iconst (v := 1) hx hb dX3_leastMissingSum_0 (by decide) ?_
  refine lv_istore_n (lv' := [(1, .int 1), (0, .ref u0)]) hx hb dX3_leastMissingSum_1 rfl hl (by decide) rfl (fun ls hl => ?_)
  have J2 : ∀ (fuel : Nat) (k : Nat) (hk1 : 1 ≤ k) (hk : k ≤ 4096) (he : lmGo wd (4096 - k) k = lmGo wd 4095 1) (hm : 4096 - k < fuel) (H : Heap) (locs : List Loc) (hP : va_P D vwCl [(u0, .inr (3, [.ref u1])), (u1, .inl (cJ, 64, .inr (.inl wd)))] H) (hD : va_D A [(u0, .inr (3, [.ref u1])), (u1, .inl (cJ, 64, .inr (.inl wd)))]) (hS : va_S A s.heap H locs) (ls : Array Slot) (hl : lv_has ls 2 [(1, .int (nI k)), (0, .ref u0)]), W p l e rmkX3_leastMissingSum s m args below meth c H locs 0 0 (MQ below (kQi D (nI (lmGo wd 4095 1)) [(u0, .inr (3, [.ref u1])), (u1, .inl (cJ, 64, .inr (.inl wd)))] A) args s 0 0 A) (F0 m 2 ls []) := by
    intro fuel
    induction fuel with
    | zero => intro k hk1 hk he hm; exact absurd hm (Nat.not_lt_zero _)
    | succ fuel ih2 =>
      intro k hk1 hk he hm H locs hP hD hS ls hl
      refine lv_iload_n hx hb dX3_leastMissingSum_2 rfl (lv_at hl 0 rfl) ?_
      refine lv_sipush (v := 4096) hx hb dX3_leastMissingSum_3 (by decide) ?_
      refine lv_icmp_ge (tgt := 38) hx hb dX3_leastMissingSum_6 (by decide) (fun c_6 => ?_) (fun c_6 => ?_)
      · have c_6 : 4096 ≤ k := (nI_leI (a := 4096) (b := k) (by omega) (by omega)).mp c_6
        refine lv_sipush (v := 4096) hx hb dX3_leastMissingSum_38 (by decide) ?_
        have hP9 := hP.sub (ws' := [(u0, .inr (3, [.ref u1])), (u1, .inl (cJ, 64, .inr (.inl wd)))]) [0, 1] rfl
        have hD9 := hD.sub (ws' := [(u0, .inr (3, [.ref u1])), (u1, .inl (cJ, 64, .inr (.inl wd)))]) [0, 1] (by decide) rfl
        exact kr_i (v := 4096) hx hb hr hlocks hP9 hD9 hS (by rw [← he, show k = 4096 from by omega]; rfl) dX3_leastMissingSum_41
      · have c_6 : ¬ 4096 ≤ k := fun h => c_6 ((nI_leI (a := 4096) (b := k) (by omega) (by omega)).mpr h)
        refine lv_aload_n hx hb dX3_leastMissingSum_9 rfl (lv_at hl 1 rfl) ?_
        refine va_get (D := D) (ci := 3) (v := .ref u1) (C := RX3) (T := TX3) (N := 1) hx hb hts inX3_leastMissingSum_3 hown hK hP 0 rfl rfl 0 (by decide) (hts (.fieldLink RX3 11 "WeighingConverter$SumSet" "words" "[J") (List.mem_of_getElem? (i := 1) rfl)) (fun _ h9 => h9) rfl dX3_leastMissingSum_10 ?_
        refine lv_iload_n hx hb dX3_leastMissingSum_13 rfl (lv_at hl 0 rfl) ?_
        refine lv_bipush (v := 64) hx hb dX3_leastMissingSum_14 (by decide) ?_
        refine lv_idiv hx hb dX3_leastMissingSum_16 (by decide) ?_
        refine k_topi (y := nI (k / 64)) (pk_div (a := k) (d := 64) (by omega) (by omega) (by omega)) ?_
        refine k_lald (k := k / 64) hx hb hK hP 1 2 rfl rfl (by omega) (by decide) dX3_leastMissingSum_17 ?_
        refine lv_iload_n hx hb dX3_leastMissingSum_18 rfl (lv_at hl 0 rfl) ?_
        refine lv_bipush (v := 64) hx hb dX3_leastMissingSum_19 (by decide) ?_
        refine lv_irem hx hb dX3_leastMissingSum_21 (by decide) ?_
        refine k_topi (y := nI (k % 64)) (pk_rem (a := k) (d := 64) (by omega) (by omega) (by omega)) ?_
        refine lv_lshr hx hb dX3_leastMissingSum_22 rfl ?_
        refine lv_lconst (v := 1) hx hb dX3_leastMissingSum_23 rfl ?_
        refine lv_land hx hb dX3_leastMissingSum_24 ?_
        refine lv_lconst (v := 0) hx hb dX3_leastMissingSum_25 rfl ?_
        refine W.lcmp hx hb dX3_leastMissingSum_26 ?_
        refine lv_if_ne (tgt := 32) hx hb dX3_leastMissingSum_27 (by decide) (fun c_27 => ?_) (fun c_27 => ?_)
        · refine lv_iinc (v := nI (k + 1)) (lv' := [(1, .int (nI (k + 1))), (0, .ref u0)]) hx hb dX3_leastMissingSum_32 hl (k := 0) rfl (by exact k_inc k) (by decide) rfl (fun ls hl => ?_)
          refine lv_goto (tgt := 2) hx hb dX3_leastMissingSum_35 (by decide) ?_
          exact ih2 (k + 1) (by first | assumption | omega) (by first | assumption | omega) (by rw [← he, lmGo_step (k := k) (by omega), if_neg (show ¬ bitL wd k = 0 from fun h => c_27 (k_cmp0.mpr h))]) (by omega) _ _ (hP.sub [0, 1] rfl) (hD.sub [0, 1] (by decide) rfl) hS _ (lv_sub hl [0, 1] rfl)
        · refine lv_iload_n hx hb dX3_leastMissingSum_30 rfl (lv_at hl 0 rfl) ?_
          have hP9 := hP.sub (ws' := [(u0, .inr (3, [.ref u1])), (u1, .inl (cJ, 64, .inr (.inl wd)))]) [0, 1] rfl
          have hD9 := hD.sub (ws' := [(u0, .inr (3, [.ref u1])), (u1, .inl (cJ, 64, .inr (.inl wd)))]) [0, 1] (by decide) rfl
          exact kr_i (v := nI k) hx hb hr hlocks hP9 hD9 hS (by rw [← he, lmGo_step (k := k) (by omega), if_pos (show bitL wd k = 0 from k_cmp0.mp c_27)]) dX3_leastMissingSum_31
  exact J2 (4096 - 1 + 1) 1 (by first | assumption | omega) (by first | assumption | omega) rfl (Nat.lt_succ_self _) _ _ (hP.sub [0, 1] rfl) (hD.sub [0, 1] (by decide) rfl) hS _ (lv_sub hl [0, 1] rfl)

theorem inX4_run_4 : ∀ w ∈ wsX40, w ∈ wsX4_run := fun _ h => List.mem_cons_of_mem _ (List.mem_append_left _ (List.mem_append_right _ h))
theorem inX4_run_6 : ∀ w ∈ wsX60, w ∈ wsX4_run := fun _ h => List.mem_cons_of_mem _ (List.mem_append_right _ h)
abbrev rmkX4_run : Room := { frames := 1, cells := 0, slots := 0, locals := 21 }
set_option maxHeartbeats 4000000 in
set_option maxRecDepth 100000 in
theorem kX4_run (l : Launch) (D : va_G) (sz : Nat) (cI : ClassId) (cC : ClassId) (cJ : ClassId) (cZ : ClassId) (cQ : ClassId) (h0 : Nat) (w0 : Nat) (w1 : Nat) (wc : Nat) (f : Nat → Int32) (a0 : Int32) (b0 : Int32) (d0 : Int32) (v0 : Int32) (leak : Int32) (off : Int32) (gl : Int32) (hwc : wc ≤ 12) : Met l yX4_run wsX4_run rmkX4_run (va_Pc [.ref h0, .ref w0, .int v0, .int leak, .int off, .int gl] (kPre D sz [(h0, .inr (4, [.int a0, .int b0, .int d0])), (w0, .inr (6, [.ref w1, .int (nI wc)])), (w1, .inl (cI, 12, .inl f))] (kT cI cC cJ cZ cQ))) (kQv D [(h0, .inr (4, [.int ((wgS f leak off gl v0 wc).1), .int ((wgS f leak off gl v0 wc).2.1), .int ((wgS f leak off gl v0 wc).2.2)])), (w0, .inr (6, [.ref w1, .int (nI wc)])), (w1, .inl (cI, 12, .inl f))] (va_A [(h0, .inr (4, [.int a0, .int b0, .int d0])), (w0, .inr (6, [.ref w1, .int (nI wc)])), (w1, .inl (cI, 12, .inl f))] sz)) 0 0 (va_A [(h0, .inr (4, [.int a0, .int b0, .int d0])), (w0, .inr (6, [.ref w1, .int (nI wc)])), (w1, .inl (cI, 12, .inl f))] sz) := by
  refine k_met (Qf := kQv D [(h0, .inr (4, [.int ((wgS f leak off gl v0 wc).1), .int ((wgS f leak off gl v0 wc).2.1), .int ((wgS f leak off gl v0 wc).2.2)])), (w0, .inr (6, [.ref w1, .int (nI wc)])), (w1, .inl (cI, 12, .inl f))]) (cc := cX4_run) (maxL := 9) (ret := none) (own := RX4) (by decide) rfl (Nat.le_of_ble_eq_true rfl) rfl ?_
  intro p e s m args below meth c ls A H locs hx hb hr hts hown hlocks hml hin hsz hP hK hD hA hS hN hl
  have hl : lv_has ls 9 [(0, .ref h0), (1, .ref w0), (2, .int v0), (3, .int leak), (4, .int off), (5, .int gl)] := hl
  refine lv_aload_n hx hb dX4_run_0 rfl (lv_at hl 0 rfl) ?_
  refine lv_iload_n hx hb dX4_run_1 rfl (lv_at hl 2 rfl) ?_
  refine va_put (D := D) (ci := 4) (v := .int v0) (ty := .int) (C := RX4) (T := TX4) (N := 3) hx hb hts inX4_run_4 tyX4 tyX4_ok nmX4 hown hK hP hD hS 0 rfl rfl 0 (by decide) (hts (.fieldLink RX4 9 "WeighingConverter$Weighing" "voltage" "I") (List.mem_of_getElem? (i := 1) rfl)) (fun _ h9 => h9) rfl (by decide +kernel) rfl rfl (Nat.le_of_ble_eq_true rfl) dX4_run_2 (fun H locs hP hD hS => ?_)
  have hP : va_P D vwCl [(h0, .inr (4, [.int v0, .int b0, .int d0])), (w0, .inr (6, [.ref w1, .int (nI wc)])), (w1, .inl (cI, 12, .inl f))] H := hP
  have hD : va_D A [(h0, .inr (4, [.int v0, .int b0, .int d0])), (w0, .inr (6, [.ref w1, .int (nI wc)])), (w1, .inl (cI, 12, .inl f))] := hD
  refine lv_aload_n hx hb dX4_run_5 rfl (lv_at hl 0 rfl) ?_
  refine lv_iconst (v := 0) hx hb dX4_run_6 (by decide) ?_
  refine va_put (D := D) (ci := 4) (v := .int 0) (ty := .int) (C := RX4) (T := TX4) (N := 3) hx hb hts inX4_run_4 tyX4 tyX4_ok nmX4 hown hK hP hD hS 0 rfl rfl 1 (by decide) (hts (.fieldLink RX4 15 "WeighingConverter$Weighing" "kept" "I") (List.mem_of_getElem? (i := 2) rfl)) (fun _ h9 => h9) rfl (by decide +kernel) rfl rfl (Nat.le_of_ble_eq_true rfl) dX4_run_7 (fun H locs hP hD hS => ?_)
  have hP : va_P D vwCl [(h0, .inr (4, [.int v0, .int 0, .int d0])), (w0, .inr (6, [.ref w1, .int (nI wc)])), (w1, .inl (cI, 12, .inl f))] H := hP
  have hD : va_D A [(h0, .inr (4, [.int v0, .int 0, .int d0])), (w0, .inr (6, [.ref w1, .int (nI wc)])), (w1, .inl (cI, 12, .inl f))] := hD
  refine lv_aload_n hx hb dX4_run_10 rfl (lv_at hl 0 rfl) ?_
  refine lv_iconst (v := 0) hx hb dX4_run_11 (by decide) ?_
  refine va_put (D := D) (ci := 4) (v := .int 0) (ty := .int) (C := RX4) (T := TX4) (N := 3) hx hb hts inX4_run_4 tyX4 tyX4_ok nmX4 hown hK hP hD hS 0 rfl rfl 2 (by decide) (hts (.fieldLink RX4 18 "WeighingConverter$Weighing" "code" "I") (List.mem_of_getElem? (i := 3) rfl)) (fun _ h9 => h9) rfl (by decide +kernel) rfl rfl (Nat.le_of_ble_eq_true rfl) dX4_run_12 (fun H locs hP hD hS => ?_)
  have hP : va_P D vwCl [(h0, .inr (4, [.int v0, .int 0, .int 0])), (w0, .inr (6, [.ref w1, .int (nI wc)])), (w1, .inl (cI, 12, .inl f))] H := hP
  have hD : va_D A [(h0, .inr (4, [.int v0, .int 0, .int 0])), (w0, .inr (6, [.ref w1, .int (nI wc)])), (w1, .inl (cI, 12, .inl f))] := hD
  refine lv_iconst (v := 0) hx hb dX4_run_15 (by decide) ?_
  refine lv_istore (lv' := [(6, .int 0), (0, .ref h0), (1, .ref w0), (2, .int v0), (3, .int leak), (4, .int off), (5, .int gl)]) hx hb dX4_run_16 hl (by decide) rfl (fun ls hl => ?_)
  have J18 : ∀ (fuel : Nat) (k : Nat) (v : Int32) (kp : Int32) (cd : Int32) (hk : k ≤ wc) (hw : (v, kp, cd) = wgS f leak off gl v0 k) (hm : wc - k < fuel) (H : Heap) (locs : List Loc) (hP : va_P D vwCl [(h0, .inr (4, [.int v, .int kp, .int cd])), (w0, .inr (6, [.ref w1, .int (nI wc)])), (w1, .inl (cI, 12, .inl f))] H) (hD : va_D A [(h0, .inr (4, [.int v, .int kp, .int cd])), (w0, .inr (6, [.ref w1, .int (nI wc)])), (w1, .inl (cI, 12, .inl f))]) (hS : va_S A s.heap H locs) (ls : Array Slot) (hl : lv_has ls 9 [(6, .int (nI k)), (0, .ref h0), (1, .ref w0), (2, .int v0), (3, .int leak), (4, .int off), (5, .int gl)]), W p l e rmkX4_run s m args below meth c H locs 0 0 (MQ below (kQv D [(h0, .inr (4, [.int ((wgS f leak off gl v0 wc).1), .int ((wgS f leak off gl v0 wc).2.1), .int ((wgS f leak off gl v0 wc).2.2)])), (w0, .inr (6, [.ref w1, .int (nI wc)])), (w1, .inl (cI, 12, .inl f))] A) args s 0 0 A) (F0 m 18 ls []) := by
    intro fuel
    induction fuel with
    | zero => intro k v kp cd hk hw hm; exact absurd hm (Nat.not_lt_zero _)
    | succ fuel ih18 =>
      intro k v kp cd hk hw hm H locs hP hD hS ls hl
      refine lv_iload hx hb dX4_run_18 (lv_at hl 0 rfl) ?_
      refine lv_aload_n hx hb dX4_run_20 rfl (lv_at hl 2 rfl) ?_
      refine va_get (D := D) (ci := 6) (v := .int (nI wc)) (C := RX6) (T := TX6) (N := 2) hx hb hts inX4_run_6 hown hK hP 1 rfl rfl 1 (by decide) (hts (.fieldLink RX4 21 "WeighingConverter$Weights" "count" "I") (List.mem_of_getElem? (i := 4) rfl)) (fun _ h9 => h9) rfl dX4_run_21 ?_
      refine lv_icmp_ge (tgt := 112) hx hb dX4_run_24 (by decide) (fun c_24 => ?_) (fun c_24 => ?_)
      · have c_24 : wc ≤ k := (nI_leI (a := wc) (b := k) (by omega) (by omega)).mp c_24
        have hk9 : k = wc := by omega
        subst hk9
        have e1 : v = (wgS f leak off gl v0 k).1 := by rw [← hw]
        have e2 : kp = (wgS f leak off gl v0 k).2.1 := by rw [← hw]
        have e3 : cd = (wgS f leak off gl v0 k).2.2 := by rw [← hw]
        rw [e1, e2, e3] at hP hD
        have hP9 := hP.sub (ws' := [(h0, .inr (4, [.int ((wgS f leak off gl v0 k).1), .int ((wgS f leak off gl v0 k).2.1), .int ((wgS f leak off gl v0 k).2.2)])), (w0, .inr (6, [.ref w1, .int (nI k)])), (w1, .inl (cI, 12, .inl f))]) [0, 1, 2] rfl
        have hD9 := hD.sub (ws' := [(h0, .inr (4, [.int ((wgS f leak off gl v0 k).1), .int ((wgS f leak off gl v0 k).2.1), .int ((wgS f leak off gl v0 k).2.2)])), (w0, .inr (6, [.ref w1, .int (nI k)])), (w1, .inl (cI, 12, .inl f))]) [0, 1, 2] (by decide) rfl
        exact kr_v hx hb hr hlocks hP9 hD9 hS dX4_run_112
      · have c_24 : ¬ wc ≤ k := fun h => c_24 ((nI_leI (a := wc) (b := k) (by omega) (by omega)).mpr h)
        refine lv_aload_n hx hb dX4_run_27 rfl (lv_at hl 1 rfl) ?_
        refine lv_aload_n hx hb dX4_run_28 rfl (lv_at hl 1 rfl) ?_
        refine va_get (D := D) (ci := 4) (v := .int v) (C := RX4) (T := TX4) (N := 3) hx hb hts inX4_run_4 hown hK hP 0 rfl rfl 0 (by decide) (hts (.fieldLink RX4 9 "WeighingConverter$Weighing" "voltage" "I") (List.mem_of_getElem? (i := 1) rfl)) (fun _ h9 => h9) rfl dX4_run_29 ?_
        refine lv_iload_n hx hb dX4_run_32 rfl (lv_at hl 4 rfl) ?_
        refine ksn_i0 (As := [.int v, .int leak]) (rest := [.ref h0]) ⟨hx, hb, hml, hown, hts⟩ (kX7_afterHoldTick l v leak) ⟨va_cnB 2 hts gX4_run_X7_afterHoldTick_n26 rfl rfl rfl hN.2.2.2.2.2.2.1 (hts (.initialized RX7) (List.mem_of_getElem? (i := 7) rfl)) (by decide +kernel) ⟨Nat.le_of_ble_eq_true rfl, Nat.le_of_ble_eq_true rfl⟩, hts (.static yX7_afterHoldTick) (List.mem_of_getElem? (i := 6) rfl), trivial⟩ hP hS rfl hl.1 rfl (Nat.le_of_ble_eq_true rfl) dX4_run_33 ⟨Nat.zero_le _, Nat.zero_le _⟩ (fun H locs hP hS => ?_)
        refine va_put (D := D) (ci := 4) (v := .int (hTick v leak)) (ty := .int) (C := RX4) (T := TX4) (N := 3) hx hb hts inX4_run_4 tyX4 tyX4_ok nmX4 hown hK hP hD hS 0 rfl rfl 0 (by decide) (hts (.fieldLink RX4 9 "WeighingConverter$Weighing" "voltage" "I") (List.mem_of_getElem? (i := 1) rfl)) (fun _ h9 => h9) rfl (by decide +kernel) rfl rfl (Nat.le_of_ble_eq_true rfl) dX4_run_36 (fun H locs hP hD hS => ?_)
        have hP : va_P D vwCl [(h0, .inr (4, [.int (hTick v leak), .int kp, .int cd])), (w0, .inr (6, [.ref w1, .int (nI wc)])), (w1, .inl (cI, 12, .inl f))] H := hP
        have hD : va_D A [(h0, .inr (4, [.int (hTick v leak), .int kp, .int cd])), (w0, .inr (6, [.ref w1, .int (nI wc)])), (w1, .inl (cI, 12, .inl f))] := hD
        refine lv_aload_n hx hb dX4_run_39 rfl (lv_at hl 1 rfl) ?_
        refine va_get (D := D) (ci := 4) (v := .int cd) (C := RX4) (T := TX4) (N := 3) hx hb hts inX4_run_4 hown hK hP 0 rfl rfl 2 (by decide) (hts (.fieldLink RX4 18 "WeighingConverter$Weighing" "code" "I") (List.mem_of_getElem? (i := 3) rfl)) (fun _ h9 => h9) rfl dX4_run_40 ?_
        refine lv_aload_n hx hb dX4_run_43 rfl (lv_at hl 2 rfl) ?_
        refine va_get (D := D) (ci := 6) (v := .ref w1) (C := RX6) (T := TX6) (N := 2) hx hb hts inX4_run_6 hown hK hP 1 rfl rfl 0 (by decide) (hts (.fieldLink RX4 30 "WeighingConverter$Weights" "sizes" "[I") (List.mem_of_getElem? (i := 5) rfl)) (fun _ h9 => h9) rfl dX4_run_44 ?_
        refine lv_iload hx hb dX4_run_47 (lv_at hl 0 rfl) ?_
        refine k_iald (k := k) hx hb hK hP 2 0 rfl rfl (by omega) (by decide) dX4_run_49 ?_
        refine lv_iadd hx hb dX4_run_50 ?_
        refine lv_istore (lv' := [(7, .int (cd + (f k))), (6, .int (nI k)), (0, .ref h0), (1, .ref w0), (2, .int v0), (3, .int leak), (4, .int off), (5, .int gl)]) hx hb dX4_run_51 hl (by decide) rfl (fun ls hl => ?_)
        refine lv_aload_n hx hb dX4_run_53 rfl (lv_at hl 2 rfl) ?_
        refine va_get (D := D) (ci := 4) (v := .int (hTick v leak)) (C := RX4) (T := TX4) (N := 3) hx hb hts inX4_run_4 hown hK hP 0 rfl rfl 0 (by decide) (hts (.fieldLink RX4 9 "WeighingConverter$Weighing" "voltage" "I") (List.mem_of_getElem? (i := 1) rfl)) (fun _ h9 => h9) rfl dX4_run_54 ?_
        refine lv_iload hx hb dX4_run_57 (lv_at hl 6 rfl) ?_
        refine lv_iadd hx hb dX4_run_59 ?_
        refine lv_bipush (v := 16) hx hb dX4_run_60 (by decide) ?_
        refine lv_iload hx hb dX4_run_62 (lv_at hl 0 rfl) ?_
        refine lv_imul hx hb dX4_run_64 ?_
        refine lv_icmp_lt (tgt := 72) hx hb dX4_run_65 (by decide) (fun c_65 => ?_) (fun c_65 => ?_)
        · refine lv_iconst (v := 0) hx hb dX4_run_72 (by decide) ?_
          refine lv_istore (lv' := [(8, .int 0), (7, .int (cd + (f k))), (6, .int (nI k)), (0, .ref h0), (1, .ref w0), (2, .int v0), (3, .int leak), (4, .int off), (5, .int gl)]) hx hb dX4_run_73 hl (by decide) rfl (fun ls hl => ?_)
          refine lv_iload hx hb dX4_run_75 (lv_at hl 0 rfl) ?_
          refine lv_iload hx hb dX4_run_77 (lv_at hl 8 rfl) ?_
          refine lv_iload hx hb dX4_run_79 (lv_at hl 2 rfl) ?_
          refine ksn_i0 (As := [.int gl, .int (nI k)]) (rest := [.int 0]) ⟨hx, hb, hml, hown, hts⟩ (kX7_hasBit l gl (nI k)) ⟨va_cnB 2 hts gX4_run_X7_hasBit_n34 rfl rfl rfl hN.2.2.2.2.2.2.2 (hts (.initialized RX7) (List.mem_of_getElem? (i := 7) rfl)) (by decide +kernel) ⟨Nat.le_of_ble_eq_true rfl, Nat.le_of_ble_eq_true rfl⟩, hts (.static yX7_hasBit) (List.mem_of_getElem? (i := 9) rfl), trivial⟩ hP hS rfl hl.1 rfl (Nat.le_of_ble_eq_true rfl) dX4_run_81 ⟨Nat.zero_le _, Nat.zero_le _⟩ (fun H locs hP hS => ?_)
          refine lv_icmp_eq (tgt := 106) hx hb dX4_run_84 (by decide) (fun c_84 => ?_) (fun c_84 => ?_)
          · refine lv_iinc (v := nI (k + 1)) (lv' := [(6, .int (nI (k + 1))), (8, .int 0), (7, .int (cd + (f k))), (0, .ref h0), (1, .ref w0), (2, .int v0), (3, .int leak), (4, .int off), (5, .int gl)]) hx hb dX4_run_106 hl (k := 2) rfl (by exact k_inc k) (by decide) rfl (fun ls hl => ?_)
            refine lv_goto (tgt := 18) hx hb dX4_run_109 (by decide) ?_
            exact ih18 (k + 1) (hTick v leak) kp cd (by first | assumption | omega) (by rw [wgS, ← hw]; first | exact (wgT_a (kp := kp) c_65 c_84 : _) | exact (wgT_b (kp := kp) c_65 c_84 : _) | exact (wgT_c (kp := kp) c_65 c_84 : _) | exact (wgT_d (kp := kp) c_65 c_84 : _)) (by omega) _ _ (hP.sub [0, 1, 2] rfl) (hD.sub [0, 1, 2] (by decide) rfl) hS _ (lv_sub hl [0, 3, 4, 5, 6, 7, 8] rfl)
          · refine lv_aload_n hx hb dX4_run_87 rfl (lv_at hl 3 rfl) ?_
            refine lv_iload hx hb dX4_run_88 (lv_at hl 1 rfl) ?_
            refine va_put (D := D) (ci := 4) (v := .int (cd + (f k))) (ty := .int) (C := RX4) (T := TX4) (N := 3) hx hb hts inX4_run_4 tyX4 tyX4_ok nmX4 hown hK hP hD hS 0 rfl rfl 2 (by decide) (hts (.fieldLink RX4 18 "WeighingConverter$Weighing" "code" "I") (List.mem_of_getElem? (i := 3) rfl)) (fun _ h9 => h9) rfl (by decide +kernel) rfl rfl (Nat.le_of_ble_eq_true rfl) dX4_run_90 (fun H locs hP hD hS => ?_)
            have hP : va_P D vwCl [(h0, .inr (4, [.int (hTick v leak), .int kp, .int (cd + (f k))])), (w0, .inr (6, [.ref w1, .int (nI wc)])), (w1, .inl (cI, 12, .inl f))] H := hP
            have hD : va_D A [(h0, .inr (4, [.int (hTick v leak), .int kp, .int (cd + (f k))])), (w0, .inr (6, [.ref w1, .int (nI wc)])), (w1, .inl (cI, 12, .inl f))] := hD
            refine lv_aload_n hx hb dX4_run_93 rfl (lv_at hl 3 rfl) ?_
            refine lv_dup hx hb dX4_run_94 rfl ?_
            refine va_get (D := D) (ci := 4) (v := .int kp) (C := RX4) (T := TX4) (N := 3) hx hb hts inX4_run_4 hown hK hP 0 rfl rfl 1 (by decide) (hts (.fieldLink RX4 15 "WeighingConverter$Weighing" "kept" "I") (List.mem_of_getElem? (i := 2) rfl)) (fun _ h9 => h9) rfl dX4_run_95 ?_
            refine lv_iconst (v := 1) hx hb dX4_run_98 (by decide) ?_
            refine lv_iload hx hb dX4_run_99 (lv_at hl 2 rfl) ?_
            refine lv_ishl hx hb dX4_run_101 ?_
            refine lv_ior hx hb dX4_run_102 ?_
            refine va_put (D := D) (ci := 4) (v := .int (kp ||| ((1 : Int32) <<< ((nI k) &&& 31)))) (ty := .int) (C := RX4) (T := TX4) (N := 3) hx hb hts inX4_run_4 tyX4 tyX4_ok nmX4 hown hK hP hD hS 0 rfl rfl 1 (by decide) (hts (.fieldLink RX4 15 "WeighingConverter$Weighing" "kept" "I") (List.mem_of_getElem? (i := 2) rfl)) (fun _ h9 => h9) rfl (by decide +kernel) rfl rfl (Nat.le_of_ble_eq_true rfl) dX4_run_103 (fun H locs hP hD hS => ?_)
            have hP : va_P D vwCl [(h0, .inr (4, [.int (hTick v leak), .int (kp ||| ((1 : Int32) <<< ((nI k) &&& 31))), .int (cd + (f k))])), (w0, .inr (6, [.ref w1, .int (nI wc)])), (w1, .inl (cI, 12, .inl f))] H := hP
            have hD : va_D A [(h0, .inr (4, [.int (hTick v leak), .int (kp ||| ((1 : Int32) <<< ((nI k) &&& 31))), .int (cd + (f k))])), (w0, .inr (6, [.ref w1, .int (nI wc)])), (w1, .inl (cI, 12, .inl f))] := hD
            refine lv_iinc (v := nI (k + 1)) (lv' := [(6, .int (nI (k + 1))), (8, .int 0), (7, .int (cd + (f k))), (0, .ref h0), (1, .ref w0), (2, .int v0), (3, .int leak), (4, .int off), (5, .int gl)]) hx hb dX4_run_106 hl (k := 2) rfl (by exact k_inc k) (by decide) rfl (fun ls hl => ?_)
            refine lv_goto (tgt := 18) hx hb dX4_run_109 (by decide) ?_
            exact ih18 (k + 1) (hTick v leak) (kp ||| ((1 : Int32) <<< ((nI k) &&& 31))) (cd + (f k)) (by first | assumption | omega) (by rw [wgS, ← hw]; first | exact (wgT_a (kp := kp) c_65 c_84 : _) | exact (wgT_b (kp := kp) c_65 c_84 : _) | exact (wgT_c (kp := kp) c_65 c_84 : _) | exact (wgT_d (kp := kp) c_65 c_84 : _)) (by omega) _ _ (hP.sub [0, 1, 2] rfl) (hD.sub [0, 1, 2] (by decide) rfl) hS _ (lv_sub hl [0, 3, 4, 5, 6, 7, 8] rfl)
        · refine lv_iconst (v := 1) hx hb dX4_run_68 (by decide) ?_
          refine lv_goto (tgt := 73) hx hb dX4_run_69 (by decide) ?_
          refine lv_istore (lv' := [(8, .int 1), (7, .int (cd + (f k))), (6, .int (nI k)), (0, .ref h0), (1, .ref w0), (2, .int v0), (3, .int leak), (4, .int off), (5, .int gl)]) hx hb dX4_run_73 hl (by decide) rfl (fun ls hl => ?_)
          refine lv_iload hx hb dX4_run_75 (lv_at hl 0 rfl) ?_
          refine lv_iload hx hb dX4_run_77 (lv_at hl 8 rfl) ?_
          refine lv_iload hx hb dX4_run_79 (lv_at hl 2 rfl) ?_
          refine ksn_i0 (As := [.int gl, .int (nI k)]) (rest := [.int 1]) ⟨hx, hb, hml, hown, hts⟩ (kX7_hasBit l gl (nI k)) ⟨va_cnB 2 hts gX4_run_X7_hasBit_n34 rfl rfl rfl hN.2.2.2.2.2.2.2 (hts (.initialized RX7) (List.mem_of_getElem? (i := 7) rfl)) (by decide +kernel) ⟨Nat.le_of_ble_eq_true rfl, Nat.le_of_ble_eq_true rfl⟩, hts (.static yX7_hasBit) (List.mem_of_getElem? (i := 9) rfl), trivial⟩ hP hS rfl hl.1 rfl (Nat.le_of_ble_eq_true rfl) dX4_run_81 ⟨Nat.zero_le _, Nat.zero_le _⟩ (fun H locs hP hS => ?_)
          refine lv_icmp_eq (tgt := 106) hx hb dX4_run_84 (by decide) (fun c_84 => ?_) (fun c_84 => ?_)
          · refine lv_iinc (v := nI (k + 1)) (lv' := [(6, .int (nI (k + 1))), (8, .int 1), (7, .int (cd + (f k))), (0, .ref h0), (1, .ref w0), (2, .int v0), (3, .int leak), (4, .int off), (5, .int gl)]) hx hb dX4_run_106 hl (k := 2) rfl (by exact k_inc k) (by decide) rfl (fun ls hl => ?_)
            refine lv_goto (tgt := 18) hx hb dX4_run_109 (by decide) ?_
            exact ih18 (k + 1) (hTick v leak) kp cd (by first | assumption | omega) (by rw [wgS, ← hw]; first | exact (wgT_a (kp := kp) c_65 c_84 : _) | exact (wgT_b (kp := kp) c_65 c_84 : _) | exact (wgT_c (kp := kp) c_65 c_84 : _) | exact (wgT_d (kp := kp) c_65 c_84 : _)) (by omega) _ _ (hP.sub [0, 1, 2] rfl) (hD.sub [0, 1, 2] (by decide) rfl) hS _ (lv_sub hl [0, 3, 4, 5, 6, 7, 8] rfl)
          · refine lv_aload_n hx hb dX4_run_87 rfl (lv_at hl 3 rfl) ?_
            refine lv_iload hx hb dX4_run_88 (lv_at hl 1 rfl) ?_
            refine va_put (D := D) (ci := 4) (v := .int (cd + (f k))) (ty := .int) (C := RX4) (T := TX4) (N := 3) hx hb hts inX4_run_4 tyX4 tyX4_ok nmX4 hown hK hP hD hS 0 rfl rfl 2 (by decide) (hts (.fieldLink RX4 18 "WeighingConverter$Weighing" "code" "I") (List.mem_of_getElem? (i := 3) rfl)) (fun _ h9 => h9) rfl (by decide +kernel) rfl rfl (Nat.le_of_ble_eq_true rfl) dX4_run_90 (fun H locs hP hD hS => ?_)
            have hP : va_P D vwCl [(h0, .inr (4, [.int (hTick v leak), .int kp, .int (cd + (f k))])), (w0, .inr (6, [.ref w1, .int (nI wc)])), (w1, .inl (cI, 12, .inl f))] H := hP
            have hD : va_D A [(h0, .inr (4, [.int (hTick v leak), .int kp, .int (cd + (f k))])), (w0, .inr (6, [.ref w1, .int (nI wc)])), (w1, .inl (cI, 12, .inl f))] := hD
            refine lv_aload_n hx hb dX4_run_93 rfl (lv_at hl 3 rfl) ?_
            refine lv_dup hx hb dX4_run_94 rfl ?_
            refine va_get (D := D) (ci := 4) (v := .int kp) (C := RX4) (T := TX4) (N := 3) hx hb hts inX4_run_4 hown hK hP 0 rfl rfl 1 (by decide) (hts (.fieldLink RX4 15 "WeighingConverter$Weighing" "kept" "I") (List.mem_of_getElem? (i := 2) rfl)) (fun _ h9 => h9) rfl dX4_run_95 ?_
            refine lv_iconst (v := 1) hx hb dX4_run_98 (by decide) ?_
            refine lv_iload hx hb dX4_run_99 (lv_at hl 2 rfl) ?_
            refine lv_ishl hx hb dX4_run_101 ?_
            refine lv_ior hx hb dX4_run_102 ?_
            refine va_put (D := D) (ci := 4) (v := .int (kp ||| ((1 : Int32) <<< ((nI k) &&& 31)))) (ty := .int) (C := RX4) (T := TX4) (N := 3) hx hb hts inX4_run_4 tyX4 tyX4_ok nmX4 hown hK hP hD hS 0 rfl rfl 1 (by decide) (hts (.fieldLink RX4 15 "WeighingConverter$Weighing" "kept" "I") (List.mem_of_getElem? (i := 2) rfl)) (fun _ h9 => h9) rfl (by decide +kernel) rfl rfl (Nat.le_of_ble_eq_true rfl) dX4_run_103 (fun H locs hP hD hS => ?_)
            have hP : va_P D vwCl [(h0, .inr (4, [.int (hTick v leak), .int (kp ||| ((1 : Int32) <<< ((nI k) &&& 31))), .int (cd + (f k))])), (w0, .inr (6, [.ref w1, .int (nI wc)])), (w1, .inl (cI, 12, .inl f))] H := hP
            have hD : va_D A [(h0, .inr (4, [.int (hTick v leak), .int (kp ||| ((1 : Int32) <<< ((nI k) &&& 31))), .int (cd + (f k))])), (w0, .inr (6, [.ref w1, .int (nI wc)])), (w1, .inl (cI, 12, .inl f))] := hD
            refine lv_iinc (v := nI (k + 1)) (lv' := [(6, .int (nI (k + 1))), (8, .int 1), (7, .int (cd + (f k))), (0, .ref h0), (1, .ref w0), (2, .int v0), (3, .int leak), (4, .int off), (5, .int gl)]) hx hb dX4_run_106 hl (k := 2) rfl (by exact k_inc k) (by decide) rfl (fun ls hl => ?_)
            refine lv_goto (tgt := 18) hx hb dX4_run_109 (by decide) ?_
            exact ih18 (k + 1) (hTick v leak) (kp ||| ((1 : Int32) <<< ((nI k) &&& 31))) (cd + (f k)) (by first | assumption | omega) (by rw [wgS, ← hw]; first | exact (wgT_a (kp := kp) c_65 c_84 : _) | exact (wgT_b (kp := kp) c_65 c_84 : _) | exact (wgT_c (kp := kp) c_65 c_84 : _) | exact (wgT_d (kp := kp) c_65 c_84 : _)) (by omega) _ _ (hP.sub [0, 1, 2] rfl) (hD.sub [0, 1, 2] (by decide) rfl) hS _ (lv_sub hl [0, 3, 4, 5, 6, 7, 8] rfl)
  exact J18 (wc - 0 + 1) 0 v0 0 0 (by first | assumption | omega) rfl (Nat.lt_succ_self _) _ _ (hP.sub [0, 1, 2] rfl) (hD.sub [0, 1, 2] (by decide) rfl) hS _ (lv_sub hl [0, 1, 2, 3, 4, 5, 6] rfl)

theorem inX5_errorIndex_5 : ∀ w ∈ wsX50, w ∈ wsX5_errorIndex := fun _ h => List.mem_cons_of_mem _ (List.mem_append_right _ h)
abbrev rmkX5_errorIndex : Room := { frames := 1, cells := 0, slots := 0, locals := 21 }
set_option maxHeartbeats 4000000 in
set_option maxRecDepth 100000 in
theorem kX5_errorIndex (l : Launch) (D : va_G) (sz : Nat) (cI : ClassId) (cC : ClassId) (cJ : ClassId) (cZ : ClassId) (cQ : ClassId) (t0 : Nat) (t1 : Nat) (tl : Nat) (tx : Nat → Int32) (htl : tl ≤ 60) : Met l yX5_errorIndex wsX5_errorIndex rmkX5_errorIndex (va_Pc [.ref t0] (kPre D sz [(t0, .inr (5, [.ref t1, .int (nI tl)])), (t1, .inl (cC, 60, .inl tx))] (kT cI cC cJ cZ cQ))) (kQi D (nI (eiGo tx tl 0 0 0)) [(t0, .inr (5, [.ref t1, .int (nI tl)])), (t1, .inl (cC, 60, .inl tx))] (va_A [(t0, .inr (5, [.ref t1, .int (nI tl)])), (t1, .inl (cC, 60, .inl tx))] sz)) 0 0 (va_A [(t0, .inr (5, [.ref t1, .int (nI tl)])), (t1, .inl (cC, 60, .inl tx))] sz) := by
  refine k_met (Qf := kQi D (nI (eiGo tx tl 0 0 0)) [(t0, .inr (5, [.ref t1, .int (nI tl)])), (t1, .inl (cC, 60, .inl tx))]) (cc := cX5_errorIndex) (maxL := 5) (ret := (some .int)) (own := RX5) (by decide) rfl (Nat.le_of_ble_eq_true rfl) rfl ?_
  intro p e s m args below meth c ls A H locs hx hb hr hts hown hlocks hml hin hsz hP hK hD hA hS hN hl
  have hl : lv_has ls 5 [(0, .ref t0)] := hl
  refine lv_iconst (v := 0) hx hb dX5_errorIndex_0 (by decide) ?_
  refine lv_istore_n (lv' := [(1, .int 0), (0, .ref t0)]) hx hb dX5_errorIndex_1 rfl hl (by decide) rfl (fun ls hl => ?_)
  refine lv_iconst (v := 0) hx hb dX5_errorIndex_2 (by decide) ?_
  refine lv_istore_n (lv' := [(2, .int 0), (1, .int 0), (0, .ref t0)]) hx hb dX5_errorIndex_3 rfl hl (by decide) rfl (fun ls hl => ?_)
  refine lv_iconst (v := 0) hx hb dX5_errorIndex_4 (by decide) ?_
  refine lv_istore_n (lv' := [(3, .int 0), (2, .int 0), (1, .int 0), (0, .ref t0)]) hx hb dX5_errorIndex_5 rfl hl (by decide) rfl (fun ls hl => ?_)
  have J6 : ∀ (fuel : Nat) (k : Nat) (size : Int32) (wb : Int32) (hk : k ≤ tl) (he : eiGo tx (tl - k) k size wb = eiGo tx tl 0 0 0) (hm : tl - k < fuel) (H : Heap) (locs : List Loc) (hP : va_P D vwCl [(t0, .inr (5, [.ref t1, .int (nI tl)])), (t1, .inl (cC, 60, .inl tx))] H) (hD : va_D A [(t0, .inr (5, [.ref t1, .int (nI tl)])), (t1, .inl (cC, 60, .inl tx))]) (hS : va_S A s.heap H locs) (ls : Array Slot) (hl : lv_has ls 5 [(3, .int (nI k)), (2, .int wb), (1, .int size), (0, .ref t0)]), W p l e rmkX5_errorIndex s m args below meth c H locs 0 0 (MQ below (kQi D (nI (eiGo tx tl 0 0 0)) [(t0, .inr (5, [.ref t1, .int (nI tl)])), (t1, .inl (cC, 60, .inl tx))] A) args s 0 0 A) (F0 m 6 ls []) := by
    intro fuel
    induction fuel with
    | zero => intro k size wb hk he hm; exact absurd hm (Nat.not_lt_zero _)
    | succ fuel ih6 =>
      intro k size wb hk he hm H locs hP hD hS ls hl
      refine lv_iload_n hx hb dX5_errorIndex_6 rfl (lv_at hl 0 rfl) ?_
      refine lv_aload_n hx hb dX5_errorIndex_7 rfl (lv_at hl 3 rfl) ?_
      refine va_get (D := D) (ci := 5) (v := .int (nI tl)) (C := RX5) (T := TX5) (N := 2) hx hb hts inX5_errorIndex_5 hown hK hP 0 rfl rfl 1 (by decide) (hts (.fieldLink RX5 15 "WeighingConverter$WeightText" "length" "I") (List.mem_of_getElem? (i := 1) rfl)) (fun _ h9 => h9) rfl dX5_errorIndex_8 ?_
      refine lv_icmp_ge (tgt := 91) hx hb dX5_errorIndex_11 (by decide) (fun c_11 => ?_) (fun c_11 => ?_)
      · have c_11 : tl ≤ k := (nI_leI (a := tl) (b := k) (by omega) (by omega)).mp c_11
        refine lv_aload_n hx hb dX5_errorIndex_91 rfl (lv_at hl 3 rfl) ?_
        refine va_get (D := D) (ci := 5) (v := .int (nI tl)) (C := RX5) (T := TX5) (N := 2) hx hb hts inX5_errorIndex_5 hown hK hP 0 rfl rfl 1 (by decide) (hts (.fieldLink RX5 15 "WeighingConverter$WeightText" "length" "I") (List.mem_of_getElem? (i := 1) rfl)) (fun _ h9 => h9) rfl dX5_errorIndex_92 ?_
        have hP9 := hP.sub (ws' := [(t0, .inr (5, [.ref t1, .int (nI tl)])), (t1, .inl (cC, 60, .inl tx))]) [0, 1] rfl
        have hD9 := hD.sub (ws' := [(t0, .inr (5, [.ref t1, .int (nI tl)])), (t1, .inl (cC, 60, .inl tx))]) [0, 1] (by decide) rfl
        exact kr_i (v := nI tl) hx hb hr hlocks hP9 hD9 hS (by rw [← he, show k = tl from by omega, Nat.sub_self]; rfl) dX5_errorIndex_95
      · have c_11 : ¬ tl ≤ k := fun h => c_11 ((nI_leI (a := tl) (b := k) (by omega) (by omega)).mpr h)
        refine lv_aload_n hx hb dX5_errorIndex_14 rfl (lv_at hl 3 rfl) ?_
        refine va_get (D := D) (ci := 5) (v := .ref t1) (C := RX5) (T := TX5) (N := 2) hx hb hts inX5_errorIndex_5 hown hK hP 0 rfl rfl 0 (by decide) (hts (.fieldLink RX5 9 "WeighingConverter$WeightText" "signs" "[C") (List.mem_of_getElem? (i := 2) rfl)) (fun _ h9 => h9) rfl dX5_errorIndex_15 ?_
        refine lv_iload_n hx hb dX5_errorIndex_18 rfl (lv_at hl 0 rfl) ?_
        refine k_cald (k := k) hx hb hK hP 1 1 rfl rfl (by omega) (by decide) dX5_errorIndex_19 ?_
        refine lv_istore (lv' := [(4, .int (tx k)), (3, .int (nI k)), (2, .int wb), (1, .int size), (0, .ref t0)]) hx hb dX5_errorIndex_20 hl (by decide) rfl (fun ls hl => ?_)
        refine lv_iload hx hb dX5_errorIndex_22 (lv_at hl 0 rfl) ?_
        refine lv_bipush (v := 44) hx hb dX5_errorIndex_24 (by decide) ?_
        refine lv_icmp_ne (tgt := 49) hx hb dX5_errorIndex_26 (by decide) (fun c_26 => ?_) (fun c_26 => ?_)
        · refine lv_iload hx hb dX5_errorIndex_49 (lv_at hl 0 rfl) ?_
          refine lv_bipush (v := 48) hx hb dX5_errorIndex_51 (by decide) ?_
          refine lv_icmp_lt (tgt := 63) hx hb dX5_errorIndex_53 (by decide) (fun c_53 => ?_) (fun c_53 => ?_)
          · refine lv_iload_n hx hb dX5_errorIndex_63 rfl (lv_at hl 1 rfl) ?_
            have hP9 := hP.sub (ws' := [(t0, .inr (5, [.ref t1, .int (nI tl)])), (t1, .inl (cC, 60, .inl tx))]) [0, 1] rfl
            have hD9 := hD.sub (ws' := [(t0, .inr (5, [.ref t1, .int (nI tl)])), (t1, .inl (cC, 60, .inl tx))]) [0, 1] (by decide) rfl
            exact kr_i (v := nI k) hx hb hr hlocks hP9 hD9 hS (by rw [← he, eiGo_step (k := k) (by omega)]; simp only [c_26, c_53, not_false_eq_true, not_true_eq_false, ↓reduceIte]) dX5_errorIndex_64
          · refine lv_iload hx hb dX5_errorIndex_56 (lv_at hl 0 rfl) ?_
            refine lv_bipush (v := 57) hx hb dX5_errorIndex_58 (by decide) ?_
            refine lv_icmp_le (tgt := 65) hx hb dX5_errorIndex_60 (by decide) (fun c_60 => ?_) (fun c_60 => ?_)
            · refine lv_iload_n hx hb dX5_errorIndex_65 rfl (lv_at hl 3 rfl) ?_
              refine lv_iload hx hb dX5_errorIndex_66 (lv_at hl 0 rfl) ?_
              refine ks_i0 (As := [.int size, .int (tx k)]) (rest := []) ⟨hx, hb, hml, hown, hts⟩ (kX5_withDigit l size (tx k)) (va_cwS 2 hts gX5_errorIndex_X5_withDigit rfl rfl rfl (by decide +kernel) ⟨Nat.le_of_ble_eq_true rfl, Nat.le_of_ble_eq_true rfl⟩) hP hS rfl hl.1 rfl (Nat.le_of_ble_eq_true rfl) dX5_errorIndex_68 ⟨Nat.zero_le _, Nat.zero_le _⟩ (fun H locs hP hS => ?_)
              refine lv_istore_n (lv' := [(1, .int (wDig size (tx k))), (4, .int (tx k)), (3, .int (nI k)), (2, .int wb), (0, .ref t0)]) hx hb dX5_errorIndex_71 rfl hl (by decide) rfl (fun ls hl => ?_)
              refine lv_iload_n hx hb dX5_errorIndex_72 rfl (lv_at hl 0 rfl) ?_
              refine lv_if_eq (tgt := 83) hx hb dX5_errorIndex_73 (by decide) (fun c_73 => ?_) (fun c_73 => ?_)
              · refine lv_iload_n hx hb dX5_errorIndex_83 rfl (lv_at hl 2 rfl) ?_
                have hP9 := hP.sub (ws' := [(t0, .inr (5, [.ref t1, .int (nI tl)])), (t1, .inl (cC, 60, .inl tx))]) [0, 1] rfl
                have hD9 := hD.sub (ws' := [(t0, .inr (5, [.ref t1, .int (nI tl)])), (t1, .inl (cC, 60, .inl tx))]) [0, 1] (by decide) rfl
                exact kr_i (v := nI k) hx hb hr hlocks hP9 hD9 hS (by rw [← he, eiGo_step (k := k) (by omega)]; simp only [c_26, c_53, c_60, c_73, not_false_eq_true, not_true_eq_false, ↓reduceIte]) dX5_errorIndex_84
              · refine lv_iload_n hx hb dX5_errorIndex_76 rfl (lv_at hl 0 rfl) ?_
                refine lv_sipush (v := 2048) hx hb dX5_errorIndex_77 (by decide) ?_
                refine lv_icmp_le (tgt := 85) hx hb dX5_errorIndex_80 (by decide) (fun c_80 => ?_) (fun c_80 => ?_)
                · refine lv_iinc (v := nI (k + 1)) (lv' := [(3, .int (nI (k + 1))), (1, .int (wDig size (tx k))), (4, .int (tx k)), (2, .int wb), (0, .ref t0)]) hx hb dX5_errorIndex_85 hl (k := 2) rfl (by exact k_inc k) (by decide) rfl (fun ls hl => ?_)
                  refine lv_goto (tgt := 6) hx hb dX5_errorIndex_88 (by decide) ?_
                  exact ih6 (k + 1) (wDig size (tx k)) wb (by first | assumption | omega) (by rw [← he, eiGo_step (k := k) (by omega)]; simp only [c_26, c_53, c_60, c_73, c_80, not_false_eq_true, not_true_eq_false, ↓reduceIte]) (by omega) _ _ (hP.sub [0, 1] rfl) (hD.sub [0, 1] (by decide) rfl) hS _ (lv_sub hl [0, 3, 1, 4] rfl)
                · refine lv_iload_n hx hb dX5_errorIndex_83 rfl (lv_at hl 2 rfl) ?_
                  have hP9 := hP.sub (ws' := [(t0, .inr (5, [.ref t1, .int (nI tl)])), (t1, .inl (cC, 60, .inl tx))]) [0, 1] rfl
                  have hD9 := hD.sub (ws' := [(t0, .inr (5, [.ref t1, .int (nI tl)])), (t1, .inl (cC, 60, .inl tx))]) [0, 1] (by decide) rfl
                  exact kr_i (v := nI k) hx hb hr hlocks hP9 hD9 hS (by rw [← he, eiGo_step (k := k) (by omega)]; simp only [c_26, c_53, c_60, c_73, c_80, not_false_eq_true, not_true_eq_false, ↓reduceIte]) dX5_errorIndex_84
            · refine lv_iload_n hx hb dX5_errorIndex_63 rfl (lv_at hl 1 rfl) ?_
              have hP9 := hP.sub (ws' := [(t0, .inr (5, [.ref t1, .int (nI tl)])), (t1, .inl (cC, 60, .inl tx))]) [0, 1] rfl
              have hD9 := hD.sub (ws' := [(t0, .inr (5, [.ref t1, .int (nI tl)])), (t1, .inl (cC, 60, .inl tx))]) [0, 1] (by decide) rfl
              exact kr_i (v := nI k) hx hb hr hlocks hP9 hD9 hS (by rw [← he, eiGo_step (k := k) (by omega)]; simp only [c_26, c_53, c_60, not_false_eq_true, not_true_eq_false, ↓reduceIte]) dX5_errorIndex_64
        · refine lv_iinc (v := wb + 1) (lv' := [(2, .int (wb + 1)), (4, .int (tx k)), (3, .int (nI k)), (1, .int size), (0, .ref t0)]) hx hb dX5_errorIndex_29 hl (k := 2) rfl rfl (by decide) rfl (fun ls hl => ?_)
          refine lv_iload_n hx hb dX5_errorIndex_32 rfl (lv_at hl 3 rfl) ?_
          refine lv_if_eq (tgt := 42) hx hb dX5_errorIndex_33 (by decide) (fun c_33 => ?_) (fun c_33 => ?_)
          · refine lv_iload_n hx hb dX5_errorIndex_42 rfl (lv_at hl 2 rfl) ?_
            have hP9 := hP.sub (ws' := [(t0, .inr (5, [.ref t1, .int (nI tl)])), (t1, .inl (cC, 60, .inl tx))]) [0, 1] rfl
            have hD9 := hD.sub (ws' := [(t0, .inr (5, [.ref t1, .int (nI tl)])), (t1, .inl (cC, 60, .inl tx))]) [0, 1] (by decide) rfl
            exact kr_i (v := nI k) hx hb hr hlocks hP9 hD9 hS (by rw [← he, eiGo_step (k := k) (by omega)]; simp only [c_26, c_33, not_false_eq_true, not_true_eq_false, ↓reduceIte]) dX5_errorIndex_43
          · refine lv_iload_n hx hb dX5_errorIndex_36 rfl (lv_at hl 0 rfl) ?_
            refine lv_bipush (v := 12) hx hb dX5_errorIndex_37 (by decide) ?_
            refine lv_icmp_ne (tgt := 44) hx hb dX5_errorIndex_39 (by decide) (fun c_39 => ?_) (fun c_39 => ?_)
            · refine lv_iconst (v := 0) hx hb dX5_errorIndex_44 (by decide) ?_
              refine lv_istore_n (lv' := [(1, .int 0), (2, .int (wb + 1)), (4, .int (tx k)), (3, .int (nI k)), (0, .ref t0)]) hx hb dX5_errorIndex_45 rfl hl (by decide) rfl (fun ls hl => ?_)
              refine lv_goto (tgt := 85) hx hb dX5_errorIndex_46 (by decide) ?_
              refine lv_iinc (v := nI (k + 1)) (lv' := [(3, .int (nI (k + 1))), (1, .int 0), (2, .int (wb + 1)), (4, .int (tx k)), (0, .ref t0)]) hx hb dX5_errorIndex_85 hl (k := 3) rfl (by exact k_inc k) (by decide) rfl (fun ls hl => ?_)
              refine lv_goto (tgt := 6) hx hb dX5_errorIndex_88 (by decide) ?_
              exact ih6 (k + 1) 0 (wb + 1) (by first | assumption | omega) (by rw [← he, eiGo_step (k := k) (by omega)]; simp only [c_26, c_33, c_39, not_false_eq_true, not_true_eq_false, ↓reduceIte]) (by omega) _ _ (hP.sub [0, 1] rfl) (hD.sub [0, 1] (by decide) rfl) hS _ (lv_sub hl [0, 2, 1, 4] rfl)
            · refine lv_iload_n hx hb dX5_errorIndex_42 rfl (lv_at hl 2 rfl) ?_
              have hP9 := hP.sub (ws' := [(t0, .inr (5, [.ref t1, .int (nI tl)])), (t1, .inl (cC, 60, .inl tx))]) [0, 1] rfl
              have hD9 := hD.sub (ws' := [(t0, .inr (5, [.ref t1, .int (nI tl)])), (t1, .inl (cC, 60, .inl tx))]) [0, 1] (by decide) rfl
              exact kr_i (v := nI k) hx hb hr hlocks hP9 hD9 hS (by rw [← he, eiGo_step (k := k) (by omega)]; simp only [c_26, c_33, c_39, not_false_eq_true, not_true_eq_false, ↓reduceIte]) dX5_errorIndex_43
  exact J6 (tl - 0 + 1) 0 0 0 (by first | assumption | omega) rfl (Nat.lt_succ_self _) _ _ (hP.sub [0, 1] rfl) (hD.sub [0, 1] (by decide) rfl) hS _ (lv_sub hl [0, 1, 2, 3] rfl)

theorem inX5_isComplete_5 : ∀ w ∈ wsX50, w ∈ wsX5_isComplete := fun _ h => List.mem_cons_of_mem _ (List.mem_append_right _ h)
abbrev rmkX5_isComplete : Room := { frames := 2, cells := 0, slots := 0, locals := 45 }
set_option maxHeartbeats 4000000 in
set_option maxRecDepth 100000 in
theorem kX5_isComplete (l : Launch) (D : va_G) (sz : Nat) (cI : ClassId) (cC : ClassId) (cJ : ClassId) (cZ : ClassId) (cQ : ClassId) (t0 : Nat) (t1 : Nat) (tl : Nat) (tx : Nat → Int32) (htl : tl ≤ 60) : Met l yX5_isComplete wsX5_isComplete rmkX5_isComplete (va_Pc [.ref t0] (kPre D sz [(t0, .inr (5, [.ref t1, .int (nI tl)])), (t1, .inl (cC, 60, .inl tx))] (kT cI cC cJ cZ cQ))) (kQi D (isC tx tl) [(t0, .inr (5, [.ref t1, .int (nI tl)])), (t1, .inl (cC, 60, .inl tx))] (va_A [(t0, .inr (5, [.ref t1, .int (nI tl)])), (t1, .inl (cC, 60, .inl tx))] sz)) 0 0 (va_A [(t0, .inr (5, [.ref t1, .int (nI tl)])), (t1, .inl (cC, 60, .inl tx))] sz) := by
  refine k_met (Qf := kQi D (isC tx tl) [(t0, .inr (5, [.ref t1, .int (nI tl)])), (t1, .inl (cC, 60, .inl tx))]) (cc := cX5_isComplete) (maxL := 1) (ret := (some .boolean)) (own := RX5) (by decide) rfl (Nat.le_of_ble_eq_true rfl) rfl ?_
  intro p e s m args below meth c ls A H locs hx hb hr hts hown hlocks hml hin hsz hP hK hD hA hS hN hl
  have hl : lv_has ls 1 [(0, .ref t0)] := hl
  refine lv_aload_n hx hb dX5_isComplete_0 rfl (lv_at hl 0 rfl) ?_
  refine va_get (D := D) (ci := 5) (v := .int (nI tl)) (C := RX5) (T := TX5) (N := 2) hx hb hts inX5_isComplete_5 hown hK hP 0 rfl rfl 1 (by decide) (hts (.fieldLink RX5 15 "WeighingConverter$WeightText" "length" "I") (List.mem_of_getElem? (i := 1) rfl)) (fun _ h9 => h9) rfl dX5_isComplete_1 ?_
  refine lv_if_le (tgt := 38) hx hb dX5_isComplete_4 (by decide) (fun c_4 => ?_) (fun c_4 => ?_)
  · have c_4 : tl ≤ 0 := (nI_leI (a := tl) (b := 0) (by omega) (by omega)).mp c_4
    refine lv_iconst (v := 0) hx hb dX5_isComplete_38 (by decide) ?_
    have hP9 := hP.sub (ws' := [(t0, .inr (5, [.ref t1, .int (nI tl)])), (t1, .inl (cC, 60, .inl tx))]) [0, 1] rfl
    have hD9 := hD.sub (ws' := [(t0, .inr (5, [.ref t1, .int (nI tl)])), (t1, .inl (cC, 60, .inl tx))]) [0, 1] (by decide) rfl
    exact kr_z (v := 0) hx hb hr hlocks rfl hP9 hD9 hS (by first | exact (isC_1 (by omega) c_20 c_31 : _) | exact (isC_0c c_31 : _) | exact (isC_0b c_20 : _) | exact isC_0a (by omega)) dX5_isComplete_39
  · have c_4 : ¬ tl ≤ 0 := fun h => c_4 ((nI_leI (a := tl) (b := 0) (by omega) (by omega)).mpr h)
    refine lv_aload_n hx hb dX5_isComplete_7 rfl (lv_at hl 0 rfl) ?_
    refine va_get (D := D) (ci := 5) (v := .ref t1) (C := RX5) (T := TX5) (N := 2) hx hb hts inX5_isComplete_5 hown hK hP 0 rfl rfl 0 (by decide) (hts (.fieldLink RX5 9 "WeighingConverter$WeightText" "signs" "[C") (List.mem_of_getElem? (i := 2) rfl)) (fun _ h9 => h9) rfl dX5_isComplete_8 ?_
    refine lv_aload_n hx hb dX5_isComplete_11 rfl (lv_at hl 0 rfl) ?_
    refine va_get (D := D) (ci := 5) (v := .int (nI tl)) (C := RX5) (T := TX5) (N := 2) hx hb hts inX5_isComplete_5 hown hK hP 0 rfl rfl 1 (by decide) (hts (.fieldLink RX5 15 "WeighingConverter$WeightText" "length" "I") (List.mem_of_getElem? (i := 1) rfl)) (fun _ h9 => h9) rfl dX5_isComplete_12 ?_
    refine lv_iconst (v := 1) hx hb dX5_isComplete_15 (by decide) ?_
    refine lv_isub hx hb dX5_isComplete_16 ?_
    refine k_topi (y := nI (tl - 1)) (pk_sub (a := tl) (b := 1) (by omega)) ?_
    refine k_cald (k := tl - 1) hx hb hK hP 1 1 rfl rfl (by omega) (by decide) dX5_isComplete_17 ?_
    refine lv_bipush (v := 44) hx hb dX5_isComplete_18 (by decide) ?_
    refine lv_icmp_eq (tgt := 38) hx hb dX5_isComplete_20 (by decide) (fun c_20 => ?_) (fun c_20 => ?_)
    · refine lv_iconst (v := 0) hx hb dX5_isComplete_38 (by decide) ?_
      have hP9 := hP.sub (ws' := [(t0, .inr (5, [.ref t1, .int (nI tl)])), (t1, .inl (cC, 60, .inl tx))]) [0, 1] rfl
      have hD9 := hD.sub (ws' := [(t0, .inr (5, [.ref t1, .int (nI tl)])), (t1, .inl (cC, 60, .inl tx))]) [0, 1] (by decide) rfl
      exact kr_z (v := 0) hx hb hr hlocks rfl hP9 hD9 hS (by first | exact (isC_1 (by omega) c_20 c_31 : _) | exact (isC_0c c_31 : _) | exact (isC_0b c_20 : _) | exact isC_0a (by omega)) dX5_isComplete_39
    · refine lv_aload_n hx hb dX5_isComplete_23 rfl (lv_at hl 0 rfl) ?_
      refine kv_i (As := []) (rest := []) (wr := []) ⟨hx, hb, hml, hown, hts⟩ (kX5_errorIndex l D H.size cI cC cJ cZ cQ t0 t1 tl tx (by first | assumption | omega)) (cwV 0 hts gX5_isComplete_X5_errorIndex rfl rfl rfl (by decide +kernel) ⟨Nat.le_of_ble_eq_true rfl, Nat.le_of_ble_eq_true rfl⟩) hP hD hK hS hA hN [0, 1] [] rfl rfl (by decide) (by decide) (by decide) 0 5 rfl rfl rfl rfl hl.1 rfl (Nat.le_of_ble_eq_true rfl) dX5_isComplete_24 ⟨Nat.zero_le _, Nat.zero_le _⟩ (fun H locs hP hD hS => ?_)
      have hP : va_P D vwCl [(t0, .inr (5, [.ref t1, .int (nI tl)])), (t1, .inl (cC, 60, .inl tx))] H := hP
      have hD : va_D A [(t0, .inr (5, [.ref t1, .int (nI tl)])), (t1, .inl (cC, 60, .inl tx))] := hD
      refine lv_aload_n hx hb dX5_isComplete_27 rfl (lv_at hl 0 rfl) ?_
      refine va_get (D := D) (ci := 5) (v := .int (nI tl)) (C := RX5) (T := TX5) (N := 2) hx hb hts inX5_isComplete_5 hown hK hP 0 rfl rfl 1 (by decide) (hts (.fieldLink RX5 15 "WeighingConverter$WeightText" "length" "I") (List.mem_of_getElem? (i := 1) rfl)) (fun _ h9 => h9) rfl dX5_isComplete_28 ?_
      have he9 := eiGo_le tx tl
      refine lv_icmp_ne (tgt := 38) hx hb dX5_isComplete_31 (by decide) (fun c_31 => ?_) (fun c_31 => ?_)
      · have c_31 : ¬ (eiGo tx tl 0 0 0) = tl := fun h => c_31 ((nI_eq (a := (eiGo tx tl 0 0 0)) (b := tl) (by omega) (by omega)).mpr h)
        refine lv_iconst (v := 0) hx hb dX5_isComplete_38 (by decide) ?_
        have hP9 := hP.sub (ws' := [(t0, .inr (5, [.ref t1, .int (nI tl)])), (t1, .inl (cC, 60, .inl tx))]) [0, 1] rfl
        have hD9 := hD.sub (ws' := [(t0, .inr (5, [.ref t1, .int (nI tl)])), (t1, .inl (cC, 60, .inl tx))]) [0, 1] (by decide) rfl
        exact kr_z (v := 0) hx hb hr hlocks rfl hP9 hD9 hS (by first | exact (isC_1 (by omega) c_20 c_31 : _) | exact (isC_0c c_31 : _) | exact (isC_0b c_20 : _) | exact isC_0a (by omega)) dX5_isComplete_39
      · have c_31 : (eiGo tx tl 0 0 0) = tl := (nI_eq (a := (eiGo tx tl 0 0 0)) (b := tl) (by omega) (by omega)).mp c_31
        refine lv_iconst (v := 1) hx hb dX5_isComplete_34 (by decide) ?_
        refine lv_goto (tgt := 39) hx hb dX5_isComplete_35 (by decide) ?_
        have hP9 := hP.sub (ws' := [(t0, .inr (5, [.ref t1, .int (nI tl)])), (t1, .inl (cC, 60, .inl tx))]) [0, 1] rfl
        have hD9 := hD.sub (ws' := [(t0, .inr (5, [.ref t1, .int (nI tl)])), (t1, .inl (cC, 60, .inl tx))]) [0, 1] (by decide) rfl
        exact kr_z (v := 1) hx hb hr hlocks rfl hP9 hD9 hS (by first | exact (isC_1 (by omega) c_20 c_31 : _) | exact (isC_0c c_31 : _) | exact (isC_0b c_20 : _) | exact isC_0a (by omega)) dX5_isComplete_39

theorem inX2_copyFrom_2 : ∀ w ∈ wsX20, w ∈ wsX2_copyFrom := fun _ h => List.mem_cons_of_mem _ (List.mem_append_left _ (List.mem_append_left _ (List.mem_append_right _ h)))
abbrev rmkX2_copyFrom : Room := { frames := 2, cells := 0, slots := 0, locals := 81 }
set_option maxHeartbeats 4000000 in
set_option maxRecDepth 100000 in
theorem kX2_copyFrom (l : Launch) (D : va_G) (sz : Nat) (cI : ClassId) (cC : ClassId) (cJ : ClassId) (cZ : ClassId) (cQ : ClassId) (a0 : Nat) (a1 : Nat) (a2 : Nat) (a3 : Nat) (a4 : Nat) (a5 : Nat) (a6 : Nat) (b0 : Nat) (b1 : Nat) (b2 : Nat) (b3 : Nat) (b4 : Nat) (b5 : Nat) (b6 : Nat) (va : Int32) (ra : Int32) (la : Int32) (oa : Int32) (ga : Int32) (wa : Nat) (ca : Nat) (fa : Nat → Int32) (fva : Nat → Int32) (fka : Nat → Int32) (fca : Nat → Int32) (vb : Int32) (rb : Int32) (lb : Int32) (ob : Int32) (gb : Int32) (wb : Nat) (cb : Nat) (fb : Nat → Int32) (fvb : Nat → Int32) (fkb : Nat → Int32) (fcb : Nat → Int32) : Met l yX2_copyFrom wsX2_copyFrom rmkX2_copyFrom (va_Pc [.ref a0, .ref b0] (kPre D sz [(a0, .inr (2, [.int va, .int ra, .int la, .int oa, .int ga, .ref a1, .ref a3])), (a1, .inr (6, [.ref a2, .int (nI wa)])), (a2, .inl (cI, 12, .inl fa)), (a3, .inr (0, [.ref a4, .ref a5, .ref a6, .int (nI ca)])), (a4, .inl (cI, 8, .inl fva)), (a5, .inl (cI, 8, .inl fka)), (a6, .inl (cI, 8, .inl fca)), (b0, .inr (2, [.int vb, .int rb, .int lb, .int ob, .int gb, .ref b1, .ref b3])), (b1, .inr (6, [.ref b2, .int (nI wb)])), (b2, .inl (cI, 12, .inl fb)), (b3, .inr (0, [.ref b4, .ref b5, .ref b6, .int (nI cb)])), (b4, .inl (cI, 8, .inl fvb)), (b5, .inl (cI, 8, .inl fkb)), (b6, .inl (cI, 8, .inl fcb))] (kT cI cC cJ cZ cQ))) (kQv D [(a0, .inr (2, [.int vb, .int rb, .int lb, .int ob, .int gb, .ref a1, .ref a3])), (a1, .inr (6, [.ref a2, .int (nI wb)])), (a2, .inl (cI, 12, .inl fb)), (a3, .inr (0, [.ref a4, .ref a5, .ref a6, .int (nI cb)])), (a4, .inl (cI, 8, .inl fvb)), (a5, .inl (cI, 8, .inl fkb)), (a6, .inl (cI, 8, .inl fcb)), (b0, .inr (2, [.int vb, .int rb, .int lb, .int ob, .int gb, .ref b1, .ref b3])), (b1, .inr (6, [.ref b2, .int (nI wb)])), (b2, .inl (cI, 12, .inl fb)), (b3, .inr (0, [.ref b4, .ref b5, .ref b6, .int (nI cb)])), (b4, .inl (cI, 8, .inl fvb)), (b5, .inl (cI, 8, .inl fkb)), (b6, .inl (cI, 8, .inl fcb))] (va_A [(a0, .inr (2, [.int va, .int ra, .int la, .int oa, .int ga, .ref a1, .ref a3])), (a1, .inr (6, [.ref a2, .int (nI wa)])), (a2, .inl (cI, 12, .inl fa)), (a3, .inr (0, [.ref a4, .ref a5, .ref a6, .int (nI ca)])), (a4, .inl (cI, 8, .inl fva)), (a5, .inl (cI, 8, .inl fka)), (a6, .inl (cI, 8, .inl fca)), (b0, .inr (2, [.int vb, .int rb, .int lb, .int ob, .int gb, .ref b1, .ref b3])), (b1, .inr (6, [.ref b2, .int (nI wb)])), (b2, .inl (cI, 12, .inl fb)), (b3, .inr (0, [.ref b4, .ref b5, .ref b6, .int (nI cb)])), (b4, .inl (cI, 8, .inl fvb)), (b5, .inl (cI, 8, .inl fkb)), (b6, .inl (cI, 8, .inl fcb))] sz)) 0 0 (va_A [(a0, .inr (2, [.int va, .int ra, .int la, .int oa, .int ga, .ref a1, .ref a3])), (a1, .inr (6, [.ref a2, .int (nI wa)])), (a2, .inl (cI, 12, .inl fa)), (a3, .inr (0, [.ref a4, .ref a5, .ref a6, .int (nI ca)])), (a4, .inl (cI, 8, .inl fva)), (a5, .inl (cI, 8, .inl fka)), (a6, .inl (cI, 8, .inl fca)), (b0, .inr (2, [.int vb, .int rb, .int lb, .int ob, .int gb, .ref b1, .ref b3])), (b1, .inr (6, [.ref b2, .int (nI wb)])), (b2, .inl (cI, 12, .inl fb)), (b3, .inr (0, [.ref b4, .ref b5, .ref b6, .int (nI cb)])), (b4, .inl (cI, 8, .inl fvb)), (b5, .inl (cI, 8, .inl fkb)), (b6, .inl (cI, 8, .inl fcb))] sz) := by
  refine k_met (Qf := kQv D [(a0, .inr (2, [.int vb, .int rb, .int lb, .int ob, .int gb, .ref a1, .ref a3])), (a1, .inr (6, [.ref a2, .int (nI wb)])), (a2, .inl (cI, 12, .inl fb)), (a3, .inr (0, [.ref a4, .ref a5, .ref a6, .int (nI cb)])), (a4, .inl (cI, 8, .inl fvb)), (a5, .inl (cI, 8, .inl fkb)), (a6, .inl (cI, 8, .inl fcb)), (b0, .inr (2, [.int vb, .int rb, .int lb, .int ob, .int gb, .ref b1, .ref b3])), (b1, .inr (6, [.ref b2, .int (nI wb)])), (b2, .inl (cI, 12, .inl fb)), (b3, .inr (0, [.ref b4, .ref b5, .ref b6, .int (nI cb)])), (b4, .inl (cI, 8, .inl fvb)), (b5, .inl (cI, 8, .inl fkb)), (b6, .inl (cI, 8, .inl fcb))]) (cc := cX2_copyFrom) (maxL := 2) (ret := none) (own := RX2) (by decide) rfl (Nat.le_of_ble_eq_true rfl) rfl ?_
  intro p e s m args below meth c ls A H locs hx hb hr hts hown hlocks hml hin hsz hP hK hD hA hS hN hl
  have hl : lv_has ls 2 [(0, .ref a0), (1, .ref b0)] := hl
  refine lv_aload_n hx hb dX2_copyFrom_0 rfl (lv_at hl 0 rfl) ?_
  refine lv_aload_n hx hb dX2_copyFrom_1 rfl (lv_at hl 1 rfl) ?_
  refine va_get (D := D) (ci := 2) (v := .int vb) (C := RX2) (T := TX2) (N := 7) hx hb hts inX2_copyFrom_2 hown hK hP 7 rfl rfl 0 (by decide) (hts (Cond.fieldLink RX2 7 "WeighingConverter$State" "voltage" "I") (List.mem_of_getElem? (i := 1) rfl)) (fun _ h9 => h9) rfl dX2_copyFrom_2 ?_
  refine va_put (D := D) (ci := 2) (v := .int vb) (ty := .int) (C := RX2) (T := TX2) (N := 7) hx hb hts inX2_copyFrom_2 tyX2 tyX2_ok nmX2 hown hK hP hD hS 0 rfl rfl 0 (by decide) (hts (Cond.fieldLink RX2 7 "WeighingConverter$State" "voltage" "I") (List.mem_of_getElem? (i := 1) rfl)) (fun _ h9 => h9) rfl (by decide +kernel) rfl rfl (Nat.le_of_ble_eq_true rfl) dX2_copyFrom_5 (fun H locs hP hD hS => ?_)
  have hP : va_P D vwCl [(a0, .inr (2, [.int vb, .int ra, .int la, .int oa, .int ga, .ref a1, .ref a3])), (a1, .inr (6, [.ref a2, .int (nI wa)])), (a2, .inl (cI, 12, .inl fa)), (a3, .inr (0, [.ref a4, .ref a5, .ref a6, .int (nI ca)])), (a4, .inl (cI, 8, .inl fva)), (a5, .inl (cI, 8, .inl fka)), (a6, .inl (cI, 8, .inl fca)), (b0, .inr (2, [.int vb, .int rb, .int lb, .int ob, .int gb, .ref b1, .ref b3])), (b1, .inr (6, [.ref b2, .int (nI wb)])), (b2, .inl (cI, 12, .inl fb)), (b3, .inr (0, [.ref b4, .ref b5, .ref b6, .int (nI cb)])), (b4, .inl (cI, 8, .inl fvb)), (b5, .inl (cI, 8, .inl fkb)), (b6, .inl (cI, 8, .inl fcb))] H := hP
  have hD : va_D A [(a0, .inr (2, [.int vb, .int ra, .int la, .int oa, .int ga, .ref a1, .ref a3])), (a1, .inr (6, [.ref a2, .int (nI wa)])), (a2, .inl (cI, 12, .inl fa)), (a3, .inr (0, [.ref a4, .ref a5, .ref a6, .int (nI ca)])), (a4, .inl (cI, 8, .inl fva)), (a5, .inl (cI, 8, .inl fka)), (a6, .inl (cI, 8, .inl fca)), (b0, .inr (2, [.int vb, .int rb, .int lb, .int ob, .int gb, .ref b1, .ref b3])), (b1, .inr (6, [.ref b2, .int (nI wb)])), (b2, .inl (cI, 12, .inl fb)), (b3, .inr (0, [.ref b4, .ref b5, .ref b6, .int (nI cb)])), (b4, .inl (cI, 8, .inl fvb)), (b5, .inl (cI, 8, .inl fkb)), (b6, .inl (cI, 8, .inl fcb))] := hD
  refine lv_aload_n hx hb dX2_copyFrom_8 rfl (lv_at hl 0 rfl) ?_
  refine lv_aload_n hx hb dX2_copyFrom_9 rfl (lv_at hl 1 rfl) ?_
  refine va_get (D := D) (ci := 2) (v := .int rb) (C := RX2) (T := TX2) (N := 7) hx hb hts inX2_copyFrom_2 hown hK hP 7 rfl rfl 1 (by decide) (hts (Cond.fieldLink RX2 13 "WeighingConverter$State" "rate" "I") (List.mem_of_getElem? (i := 2) rfl)) (fun _ h9 => h9) rfl dX2_copyFrom_10 ?_
  refine va_put (D := D) (ci := 2) (v := .int rb) (ty := .int) (C := RX2) (T := TX2) (N := 7) hx hb hts inX2_copyFrom_2 tyX2 tyX2_ok nmX2 hown hK hP hD hS 0 rfl rfl 1 (by decide) (hts (Cond.fieldLink RX2 13 "WeighingConverter$State" "rate" "I") (List.mem_of_getElem? (i := 2) rfl)) (fun _ h9 => h9) rfl (by decide +kernel) rfl rfl (Nat.le_of_ble_eq_true rfl) dX2_copyFrom_13 (fun H locs hP hD hS => ?_)
  have hP : va_P D vwCl [(a0, .inr (2, [.int vb, .int rb, .int la, .int oa, .int ga, .ref a1, .ref a3])), (a1, .inr (6, [.ref a2, .int (nI wa)])), (a2, .inl (cI, 12, .inl fa)), (a3, .inr (0, [.ref a4, .ref a5, .ref a6, .int (nI ca)])), (a4, .inl (cI, 8, .inl fva)), (a5, .inl (cI, 8, .inl fka)), (a6, .inl (cI, 8, .inl fca)), (b0, .inr (2, [.int vb, .int rb, .int lb, .int ob, .int gb, .ref b1, .ref b3])), (b1, .inr (6, [.ref b2, .int (nI wb)])), (b2, .inl (cI, 12, .inl fb)), (b3, .inr (0, [.ref b4, .ref b5, .ref b6, .int (nI cb)])), (b4, .inl (cI, 8, .inl fvb)), (b5, .inl (cI, 8, .inl fkb)), (b6, .inl (cI, 8, .inl fcb))] H := hP
  have hD : va_D A [(a0, .inr (2, [.int vb, .int rb, .int la, .int oa, .int ga, .ref a1, .ref a3])), (a1, .inr (6, [.ref a2, .int (nI wa)])), (a2, .inl (cI, 12, .inl fa)), (a3, .inr (0, [.ref a4, .ref a5, .ref a6, .int (nI ca)])), (a4, .inl (cI, 8, .inl fva)), (a5, .inl (cI, 8, .inl fka)), (a6, .inl (cI, 8, .inl fca)), (b0, .inr (2, [.int vb, .int rb, .int lb, .int ob, .int gb, .ref b1, .ref b3])), (b1, .inr (6, [.ref b2, .int (nI wb)])), (b2, .inl (cI, 12, .inl fb)), (b3, .inr (0, [.ref b4, .ref b5, .ref b6, .int (nI cb)])), (b4, .inl (cI, 8, .inl fvb)), (b5, .inl (cI, 8, .inl fkb)), (b6, .inl (cI, 8, .inl fcb))] := hD
  refine lv_aload_n hx hb dX2_copyFrom_16 rfl (lv_at hl 0 rfl) ?_
  refine lv_aload_n hx hb dX2_copyFrom_17 rfl (lv_at hl 1 rfl) ?_
  refine va_get (D := D) (ci := 2) (v := .int lb) (C := RX2) (T := TX2) (N := 7) hx hb hts inX2_copyFrom_2 hown hK hP 7 rfl rfl 2 (by decide) (hts (Cond.fieldLink RX2 16 "WeighingConverter$State" "leak" "I") (List.mem_of_getElem? (i := 3) rfl)) (fun _ h9 => h9) rfl dX2_copyFrom_18 ?_
  refine va_put (D := D) (ci := 2) (v := .int lb) (ty := .int) (C := RX2) (T := TX2) (N := 7) hx hb hts inX2_copyFrom_2 tyX2 tyX2_ok nmX2 hown hK hP hD hS 0 rfl rfl 2 (by decide) (hts (Cond.fieldLink RX2 16 "WeighingConverter$State" "leak" "I") (List.mem_of_getElem? (i := 3) rfl)) (fun _ h9 => h9) rfl (by decide +kernel) rfl rfl (Nat.le_of_ble_eq_true rfl) dX2_copyFrom_21 (fun H locs hP hD hS => ?_)
  have hP : va_P D vwCl [(a0, .inr (2, [.int vb, .int rb, .int lb, .int oa, .int ga, .ref a1, .ref a3])), (a1, .inr (6, [.ref a2, .int (nI wa)])), (a2, .inl (cI, 12, .inl fa)), (a3, .inr (0, [.ref a4, .ref a5, .ref a6, .int (nI ca)])), (a4, .inl (cI, 8, .inl fva)), (a5, .inl (cI, 8, .inl fka)), (a6, .inl (cI, 8, .inl fca)), (b0, .inr (2, [.int vb, .int rb, .int lb, .int ob, .int gb, .ref b1, .ref b3])), (b1, .inr (6, [.ref b2, .int (nI wb)])), (b2, .inl (cI, 12, .inl fb)), (b3, .inr (0, [.ref b4, .ref b5, .ref b6, .int (nI cb)])), (b4, .inl (cI, 8, .inl fvb)), (b5, .inl (cI, 8, .inl fkb)), (b6, .inl (cI, 8, .inl fcb))] H := hP
  have hD : va_D A [(a0, .inr (2, [.int vb, .int rb, .int lb, .int oa, .int ga, .ref a1, .ref a3])), (a1, .inr (6, [.ref a2, .int (nI wa)])), (a2, .inl (cI, 12, .inl fa)), (a3, .inr (0, [.ref a4, .ref a5, .ref a6, .int (nI ca)])), (a4, .inl (cI, 8, .inl fva)), (a5, .inl (cI, 8, .inl fka)), (a6, .inl (cI, 8, .inl fca)), (b0, .inr (2, [.int vb, .int rb, .int lb, .int ob, .int gb, .ref b1, .ref b3])), (b1, .inr (6, [.ref b2, .int (nI wb)])), (b2, .inl (cI, 12, .inl fb)), (b3, .inr (0, [.ref b4, .ref b5, .ref b6, .int (nI cb)])), (b4, .inl (cI, 8, .inl fvb)), (b5, .inl (cI, 8, .inl fkb)), (b6, .inl (cI, 8, .inl fcb))] := hD
  refine lv_aload_n hx hb dX2_copyFrom_24 rfl (lv_at hl 0 rfl) ?_
  refine lv_aload_n hx hb dX2_copyFrom_25 rfl (lv_at hl 1 rfl) ?_
  refine va_get (D := D) (ci := 2) (v := .int ob) (C := RX2) (T := TX2) (N := 7) hx hb hts inX2_copyFrom_2 hown hK hP 7 rfl rfl 3 (by decide) (hts (Cond.fieldLink RX2 19 "WeighingConverter$State" "offset" "I") (List.mem_of_getElem? (i := 4) rfl)) (fun _ h9 => h9) rfl dX2_copyFrom_26 ?_
  refine va_put (D := D) (ci := 2) (v := .int ob) (ty := .int) (C := RX2) (T := TX2) (N := 7) hx hb hts inX2_copyFrom_2 tyX2 tyX2_ok nmX2 hown hK hP hD hS 0 rfl rfl 3 (by decide) (hts (Cond.fieldLink RX2 19 "WeighingConverter$State" "offset" "I") (List.mem_of_getElem? (i := 4) rfl)) (fun _ h9 => h9) rfl (by decide +kernel) rfl rfl (Nat.le_of_ble_eq_true rfl) dX2_copyFrom_29 (fun H locs hP hD hS => ?_)
  have hP : va_P D vwCl [(a0, .inr (2, [.int vb, .int rb, .int lb, .int ob, .int ga, .ref a1, .ref a3])), (a1, .inr (6, [.ref a2, .int (nI wa)])), (a2, .inl (cI, 12, .inl fa)), (a3, .inr (0, [.ref a4, .ref a5, .ref a6, .int (nI ca)])), (a4, .inl (cI, 8, .inl fva)), (a5, .inl (cI, 8, .inl fka)), (a6, .inl (cI, 8, .inl fca)), (b0, .inr (2, [.int vb, .int rb, .int lb, .int ob, .int gb, .ref b1, .ref b3])), (b1, .inr (6, [.ref b2, .int (nI wb)])), (b2, .inl (cI, 12, .inl fb)), (b3, .inr (0, [.ref b4, .ref b5, .ref b6, .int (nI cb)])), (b4, .inl (cI, 8, .inl fvb)), (b5, .inl (cI, 8, .inl fkb)), (b6, .inl (cI, 8, .inl fcb))] H := hP
  have hD : va_D A [(a0, .inr (2, [.int vb, .int rb, .int lb, .int ob, .int ga, .ref a1, .ref a3])), (a1, .inr (6, [.ref a2, .int (nI wa)])), (a2, .inl (cI, 12, .inl fa)), (a3, .inr (0, [.ref a4, .ref a5, .ref a6, .int (nI ca)])), (a4, .inl (cI, 8, .inl fva)), (a5, .inl (cI, 8, .inl fka)), (a6, .inl (cI, 8, .inl fca)), (b0, .inr (2, [.int vb, .int rb, .int lb, .int ob, .int gb, .ref b1, .ref b3])), (b1, .inr (6, [.ref b2, .int (nI wb)])), (b2, .inl (cI, 12, .inl fb)), (b3, .inr (0, [.ref b4, .ref b5, .ref b6, .int (nI cb)])), (b4, .inl (cI, 8, .inl fvb)), (b5, .inl (cI, 8, .inl fkb)), (b6, .inl (cI, 8, .inl fcb))] := hD
  refine lv_aload_n hx hb dX2_copyFrom_32 rfl (lv_at hl 0 rfl) ?_
  refine lv_aload_n hx hb dX2_copyFrom_33 rfl (lv_at hl 1 rfl) ?_
  refine va_get (D := D) (ci := 2) (v := .int gb) (C := RX2) (T := TX2) (N := 7) hx hb hts inX2_copyFrom_2 hown hK hP 7 rfl rfl 4 (by decide) (hts (Cond.fieldLink RX2 22 "WeighingConverter$State" "glitches" "I") (List.mem_of_getElem? (i := 5) rfl)) (fun _ h9 => h9) rfl dX2_copyFrom_34 ?_
  refine va_put (D := D) (ci := 2) (v := .int gb) (ty := .int) (C := RX2) (T := TX2) (N := 7) hx hb hts inX2_copyFrom_2 tyX2 tyX2_ok nmX2 hown hK hP hD hS 0 rfl rfl 4 (by decide) (hts (Cond.fieldLink RX2 22 "WeighingConverter$State" "glitches" "I") (List.mem_of_getElem? (i := 5) rfl)) (fun _ h9 => h9) rfl (by decide +kernel) rfl rfl (Nat.le_of_ble_eq_true rfl) dX2_copyFrom_37 (fun H locs hP hD hS => ?_)
  have hP : va_P D vwCl [(a0, .inr (2, [.int vb, .int rb, .int lb, .int ob, .int gb, .ref a1, .ref a3])), (a1, .inr (6, [.ref a2, .int (nI wa)])), (a2, .inl (cI, 12, .inl fa)), (a3, .inr (0, [.ref a4, .ref a5, .ref a6, .int (nI ca)])), (a4, .inl (cI, 8, .inl fva)), (a5, .inl (cI, 8, .inl fka)), (a6, .inl (cI, 8, .inl fca)), (b0, .inr (2, [.int vb, .int rb, .int lb, .int ob, .int gb, .ref b1, .ref b3])), (b1, .inr (6, [.ref b2, .int (nI wb)])), (b2, .inl (cI, 12, .inl fb)), (b3, .inr (0, [.ref b4, .ref b5, .ref b6, .int (nI cb)])), (b4, .inl (cI, 8, .inl fvb)), (b5, .inl (cI, 8, .inl fkb)), (b6, .inl (cI, 8, .inl fcb))] H := hP
  have hD : va_D A [(a0, .inr (2, [.int vb, .int rb, .int lb, .int ob, .int gb, .ref a1, .ref a3])), (a1, .inr (6, [.ref a2, .int (nI wa)])), (a2, .inl (cI, 12, .inl fa)), (a3, .inr (0, [.ref a4, .ref a5, .ref a6, .int (nI ca)])), (a4, .inl (cI, 8, .inl fva)), (a5, .inl (cI, 8, .inl fka)), (a6, .inl (cI, 8, .inl fca)), (b0, .inr (2, [.int vb, .int rb, .int lb, .int ob, .int gb, .ref b1, .ref b3])), (b1, .inr (6, [.ref b2, .int (nI wb)])), (b2, .inl (cI, 12, .inl fb)), (b3, .inr (0, [.ref b4, .ref b5, .ref b6, .int (nI cb)])), (b4, .inl (cI, 8, .inl fvb)), (b5, .inl (cI, 8, .inl fkb)), (b6, .inl (cI, 8, .inl fcb))] := hD
  refine lv_aload_n hx hb dX2_copyFrom_40 rfl (lv_at hl 0 rfl) ?_
  refine va_get (D := D) (ci := 2) (v := .ref a1) (C := RX2) (T := TX2) (N := 7) hx hb hts inX2_copyFrom_2 hown hK hP 0 rfl rfl 5 (by decide) (hts (Cond.fieldLink RX2 28 "WeighingConverter$State" "weights" "LWeighingConverter$Weights;") (List.mem_of_getElem? (i := 6) rfl)) (fun _ h9 => h9) rfl dX2_copyFrom_41 ?_
  refine lv_aload_n hx hb dX2_copyFrom_44 rfl (lv_at hl 1 rfl) ?_
  refine va_get (D := D) (ci := 2) (v := .ref b1) (C := RX2) (T := TX2) (N := 7) hx hb hts inX2_copyFrom_2 hown hK hP 7 rfl rfl 5 (by decide) (hts (Cond.fieldLink RX2 28 "WeighingConverter$State" "weights" "LWeighingConverter$Weights;") (List.mem_of_getElem? (i := 6) rfl)) (fun _ h9 => h9) rfl dX2_copyFrom_45 ?_
  refine kv_v (As := [.ref b1]) (rest := []) (wr := [(a0, .inr (2, [.int vb, .int rb, .int lb, .int ob, .int gb, .ref a1, .ref a3])), (a3, .inr (0, [.ref a4, .ref a5, .ref a6, .int (nI ca)])), (a4, .inl (cI, 8, .inl fva)), (a5, .inl (cI, 8, .inl fka)), (a6, .inl (cI, 8, .inl fca)), (b0, .inr (2, [.int vb, .int rb, .int lb, .int ob, .int gb, .ref b1, .ref b3])), (b3, .inr (0, [.ref b4, .ref b5, .ref b6, .int (nI cb)])), (b4, .inl (cI, 8, .inl fvb)), (b5, .inl (cI, 8, .inl fkb)), (b6, .inl (cI, 8, .inl fcb))]) ⟨hx, hb, hml, hown, hts⟩ (kX6_copyFrom l D H.size cI cC cJ cZ cQ a1 a2 b1 b2 wa wb fa fb) (cwV 1 hts gX2_copyFrom_X6_copyFrom rfl rfl rfl (by decide +kernel) ⟨Nat.le_of_ble_eq_true rfl, Nat.le_of_ble_eq_true rfl⟩) hP hD hK hS hA hN [1, 2, 8, 9] [0, 3, 4, 5, 6, 7, 10, 11, 12, 13] rfl rfl (by decide) (by decide) (by decide) 1 6 rfl rfl rfl rfl hl.1 rfl (Nat.le_of_ble_eq_true rfl) dX2_copyFrom_48 ⟨Nat.zero_le _, Nat.zero_le _⟩ (fun H locs hP hD hS => ?_)
  have hP : va_P D vwCl [(a0, .inr (2, [.int vb, .int rb, .int lb, .int ob, .int gb, .ref a1, .ref a3])), (a3, .inr (0, [.ref a4, .ref a5, .ref a6, .int (nI ca)])), (a4, .inl (cI, 8, .inl fva)), (a5, .inl (cI, 8, .inl fka)), (a6, .inl (cI, 8, .inl fca)), (b0, .inr (2, [.int vb, .int rb, .int lb, .int ob, .int gb, .ref b1, .ref b3])), (b3, .inr (0, [.ref b4, .ref b5, .ref b6, .int (nI cb)])), (b4, .inl (cI, 8, .inl fvb)), (b5, .inl (cI, 8, .inl fkb)), (b6, .inl (cI, 8, .inl fcb)), (a1, .inr (6, [.ref a2, .int (nI wb)])), (a2, .inl (cI, 12, .inl fb)), (b1, .inr (6, [.ref b2, .int (nI wb)])), (b2, .inl (cI, 12, .inl fb))] H := hP
  have hD : va_D A [(a0, .inr (2, [.int vb, .int rb, .int lb, .int ob, .int gb, .ref a1, .ref a3])), (a3, .inr (0, [.ref a4, .ref a5, .ref a6, .int (nI ca)])), (a4, .inl (cI, 8, .inl fva)), (a5, .inl (cI, 8, .inl fka)), (a6, .inl (cI, 8, .inl fca)), (b0, .inr (2, [.int vb, .int rb, .int lb, .int ob, .int gb, .ref b1, .ref b3])), (b3, .inr (0, [.ref b4, .ref b5, .ref b6, .int (nI cb)])), (b4, .inl (cI, 8, .inl fvb)), (b5, .inl (cI, 8, .inl fkb)), (b6, .inl (cI, 8, .inl fcb)), (a1, .inr (6, [.ref a2, .int (nI wb)])), (a2, .inl (cI, 12, .inl fb)), (b1, .inr (6, [.ref b2, .int (nI wb)])), (b2, .inl (cI, 12, .inl fb))] := hD
  refine lv_aload_n hx hb dX2_copyFrom_51 rfl (lv_at hl 0 rfl) ?_
  refine va_get (D := D) (ci := 2) (v := .ref a3) (C := RX2) (T := TX2) (N := 7) hx hb hts inX2_copyFrom_2 hown hK hP 0 rfl rfl 6 (by decide) (hts (Cond.fieldLink RX2 35 "WeighingConverter$State" "log" "LWeighingConverter$Log;") (List.mem_of_getElem? (i := 7) rfl)) (fun _ h9 => h9) rfl dX2_copyFrom_52 ?_
  refine lv_aload_n hx hb dX2_copyFrom_55 rfl (lv_at hl 1 rfl) ?_
  refine va_get (D := D) (ci := 2) (v := .ref b3) (C := RX2) (T := TX2) (N := 7) hx hb hts inX2_copyFrom_2 hown hK hP 5 rfl rfl 6 (by decide) (hts (Cond.fieldLink RX2 35 "WeighingConverter$State" "log" "LWeighingConverter$Log;") (List.mem_of_getElem? (i := 7) rfl)) (fun _ h9 => h9) rfl dX2_copyFrom_56 ?_
  refine kv_v (As := [.ref b3]) (rest := []) (wr := [(a0, .inr (2, [.int vb, .int rb, .int lb, .int ob, .int gb, .ref a1, .ref a3])), (b0, .inr (2, [.int vb, .int rb, .int lb, .int ob, .int gb, .ref b1, .ref b3])), (a1, .inr (6, [.ref a2, .int (nI wb)])), (a2, .inl (cI, 12, .inl fb)), (b1, .inr (6, [.ref b2, .int (nI wb)])), (b2, .inl (cI, 12, .inl fb))]) ⟨hx, hb, hml, hown, hts⟩ (kX0_copyFrom l D H.size cI cC cJ cZ cQ a3 a4 a5 a6 ca b3 b4 b5 b6 cb fva fka fca fvb fkb fcb) (cwV 1 hts gX2_copyFrom_X0_copyFrom rfl rfl rfl (by decide +kernel) ⟨Nat.le_of_ble_eq_true rfl, Nat.le_of_ble_eq_true rfl⟩) hP hD hK hS hA hN [1, 2, 3, 4, 6, 7, 8, 9] [0, 5, 10, 11, 12, 13] rfl rfl (by decide) (by decide) (by decide) 1 0 rfl rfl rfl rfl hl.1 rfl (Nat.le_of_ble_eq_true rfl) dX2_copyFrom_59 ⟨Nat.zero_le _, Nat.zero_le _⟩ (fun H locs hP hD hS => ?_)
  have hP : va_P D vwCl [(a0, .inr (2, [.int vb, .int rb, .int lb, .int ob, .int gb, .ref a1, .ref a3])), (b0, .inr (2, [.int vb, .int rb, .int lb, .int ob, .int gb, .ref b1, .ref b3])), (a1, .inr (6, [.ref a2, .int (nI wb)])), (a2, .inl (cI, 12, .inl fb)), (b1, .inr (6, [.ref b2, .int (nI wb)])), (b2, .inl (cI, 12, .inl fb)), (a3, .inr (0, [.ref a4, .ref a5, .ref a6, .int (nI cb)])), (a4, .inl (cI, 8, .inl fvb)), (a5, .inl (cI, 8, .inl fkb)), (a6, .inl (cI, 8, .inl fcb)), (b3, .inr (0, [.ref b4, .ref b5, .ref b6, .int (nI cb)])), (b4, .inl (cI, 8, .inl fvb)), (b5, .inl (cI, 8, .inl fkb)), (b6, .inl (cI, 8, .inl fcb))] H := hP
  have hD : va_D A [(a0, .inr (2, [.int vb, .int rb, .int lb, .int ob, .int gb, .ref a1, .ref a3])), (b0, .inr (2, [.int vb, .int rb, .int lb, .int ob, .int gb, .ref b1, .ref b3])), (a1, .inr (6, [.ref a2, .int (nI wb)])), (a2, .inl (cI, 12, .inl fb)), (b1, .inr (6, [.ref b2, .int (nI wb)])), (b2, .inl (cI, 12, .inl fb)), (a3, .inr (0, [.ref a4, .ref a5, .ref a6, .int (nI cb)])), (a4, .inl (cI, 8, .inl fvb)), (a5, .inl (cI, 8, .inl fkb)), (a6, .inl (cI, 8, .inl fcb)), (b3, .inr (0, [.ref b4, .ref b5, .ref b6, .int (nI cb)])), (b4, .inl (cI, 8, .inl fvb)), (b5, .inl (cI, 8, .inl fkb)), (b6, .inl (cI, 8, .inl fcb))] := hD
  have hP9 := hP.sub (ws' := [(a0, .inr (2, [.int vb, .int rb, .int lb, .int ob, .int gb, .ref a1, .ref a3])), (a1, .inr (6, [.ref a2, .int (nI wb)])), (a2, .inl (cI, 12, .inl fb)), (a3, .inr (0, [.ref a4, .ref a5, .ref a6, .int (nI cb)])), (a4, .inl (cI, 8, .inl fvb)), (a5, .inl (cI, 8, .inl fkb)), (a6, .inl (cI, 8, .inl fcb)), (b0, .inr (2, [.int vb, .int rb, .int lb, .int ob, .int gb, .ref b1, .ref b3])), (b1, .inr (6, [.ref b2, .int (nI wb)])), (b2, .inl (cI, 12, .inl fb)), (b3, .inr (0, [.ref b4, .ref b5, .ref b6, .int (nI cb)])), (b4, .inl (cI, 8, .inl fvb)), (b5, .inl (cI, 8, .inl fkb)), (b6, .inl (cI, 8, .inl fcb))]) [0, 2, 3, 6, 7, 8, 9, 1, 4, 5, 10, 11, 12, 13] rfl
  have hD9 := hD.sub (ws' := [(a0, .inr (2, [.int vb, .int rb, .int lb, .int ob, .int gb, .ref a1, .ref a3])), (a1, .inr (6, [.ref a2, .int (nI wb)])), (a2, .inl (cI, 12, .inl fb)), (a3, .inr (0, [.ref a4, .ref a5, .ref a6, .int (nI cb)])), (a4, .inl (cI, 8, .inl fvb)), (a5, .inl (cI, 8, .inl fkb)), (a6, .inl (cI, 8, .inl fcb)), (b0, .inr (2, [.int vb, .int rb, .int lb, .int ob, .int gb, .ref b1, .ref b3])), (b1, .inr (6, [.ref b2, .int (nI wb)])), (b2, .inl (cI, 12, .inl fb)), (b3, .inr (0, [.ref b4, .ref b5, .ref b6, .int (nI cb)])), (b4, .inl (cI, 8, .inl fvb)), (b5, .inl (cI, 8, .inl fkb)), (b6, .inl (cI, 8, .inl fcb))]) [0, 2, 3, 6, 7, 8, 9, 1, 4, 5, 10, 11, 12, 13] (by decide) rfl
  exact kr_v hx hb hr hlocks hP9 hD9 hS dX2_copyFrom_62
