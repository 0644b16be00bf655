/-! contracts of the model, laid by program (wip/whole/gen) -/
theorem inX8_thrown_8 : ∀ w ∈ wsX80, w ∈ wsX8_thrown := fun _ h => List.mem_cons_of_mem _ (List.mem_append_right _ h)
abbrev rmkX8_thrown : Room := { frames := 0, cells := 0, slots := 0, locals := 0 }
set_option maxHeartbeats 4000000 in
set_option maxRecDepth 100000 in
theorem kX8_thrown (l : Launch) (D : va_G) (sz : Nat) (cI : ClassId) (cC : ClassId) (cJ : ClassId) (cZ : ClassId) (cQ : ClassId) (m0 : Nat) (m1 : Nat) (m2 : Nat) (m3 : Nat) (m4 : Nat) (m5 : Nat) (m6 : Nat) (sm : Nat) (ln : Nat) (sp : Nat) (tm : Nat) (th : Int32) (lf : Int32) (kp : Int32) : Met l yX8_thrown wsX8_thrown rmkX8_thrown (va_Pc [.ref m0] (kPre D sz [(m0, .inr (8, [.ref m1, .ref m2, .int (nI sm), .ref m3, .int (nI ln), .int th, .ref m4, .int lf, .int kp, .ref m5, .int (nI sp), .ref m6, .int (nI tm)]))] (kT cI cC cJ cZ cQ))) (kQi D th [(m0, .inr (8, [.ref m1, .ref m2, .int (nI sm), .ref m3, .int (nI ln), .int th, .ref m4, .int lf, .int kp, .ref m5, .int (nI sp), .ref m6, .int (nI tm)]))] (va_A [(m0, .inr (8, [.ref m1, .ref m2, .int (nI sm), .ref m3, .int (nI ln), .int th, .ref m4, .int lf, .int kp, .ref m5, .int (nI sp), .ref m6, .int (nI tm)]))] sz)) 0 0 (va_A [(m0, .inr (8, [.ref m1, .ref m2, .int (nI sm), .ref m3, .int (nI ln), .int th, .ref m4, .int lf, .int kp, .ref m5, .int (nI sp), .ref m6, .int (nI tm)]))] sz) := by
  refine k_met (Qf := kQi D th [(m0, .inr (8, [.ref m1, .ref m2, .int (nI sm), .ref m3, .int (nI ln), .int th, .ref m4, .int lf, .int kp, .ref m5, .int (nI sp), .ref m6, .int (nI tm)]))]) (cc := cX8_thrown) (maxL := 1) (ret := (some .int)) (own := RX8) (by decide) rfl (Nat.le_of_ble_eq_true rfl) rfl ?_
  intro p e s m args below meth c ls A H locs hx hb hr hts hown hlocks hml hin hsz hP hK hD hA hS hN hl
  have hl : lv_has ls 1 [(0, .ref m0)] := hl
  refine lv_aload_n hx hb dX8_thrown_0 rfl (lv_at hl 0 rfl) ?_
  refine va_get (D := D) (ci := 8) (v := .int th) (C := RX8) (T := TX8) (N := 13) hx hb hts inX8_thrown_8 hown hK hP 0 rfl rfl 5 (by decide) (hts (.fieldLink RX8 29 "WeighingConverterModel" "thrown" "I") (List.mem_of_getElem? (i := 1) rfl)) (fun _ h9 => h9) rfl dX8_thrown_1 ?_
  have hP9 := hP.sub (ws' := [(m0, .inr (8, [.ref m1, .ref m2, .int (nI sm), .ref m3, .int (nI ln), .int th, .ref m4, .int lf, .int kp, .ref m5, .int (nI sp), .ref m6, .int (nI tm)]))]) [0] rfl
  have hD9 := hD.sub (ws' := [(m0, .inr (8, [.ref m1, .ref m2, .int (nI sm), .ref m3, .int (nI ln), .int th, .ref m4, .int lf, .int kp, .ref m5, .int (nI sp), .ref m6, .int (nI tm)]))]) [0] (by decide) rfl
  exact kr_i (v := th) hx hb hr hlocks hP9 hD9 hS rfl dX8_thrown_4

theorem inX8_refused_8 : ∀ w ∈ wsX80, w ∈ wsX8_refused := fun _ h => List.mem_cons_of_mem _ (List.mem_append_right _ h)
abbrev rmkX8_refused : Room := { frames := 0, cells := 0, slots := 0, locals := 0 }
set_option maxHeartbeats 4000000 in
set_option maxRecDepth 100000 in
theorem kX8_refused (l : Launch) (D : va_G) (sz : Nat) (cI : ClassId) (cC : ClassId) (cJ : ClassId) (cZ : ClassId) (cQ : ClassId) (m0 : Nat) (m1 : Nat) (m2 : Nat) (m3 : Nat) (m4 : Nat) (m5 : Nat) (m6 : Nat) (sm : Nat) (ln : Nat) (sp : Nat) (tm : Nat) (th : Int32) (lf : Int32) (kp : Int32) (w : Int32) : Met l yX8_refused wsX8_refused rmkX8_refused (va_Pc [.ref m0, .int w] (kPre D sz [(m0, .inr (8, [.ref m1, .ref m2, .int (nI sm), .ref m3, .int (nI ln), .int th, .ref m4, .int lf, .int kp, .ref m5, .int (nI sp), .ref m6, .int (nI tm)]))] (kT cI cC cJ cZ cQ))) (kQi D (refB w) [(m0, .inr (8, [.ref m1, .ref m2, .int (nI sm), .ref m3, .int (nI ln), .int w, .ref m4, .int lf, .int kp, .ref m5, .int (nI sp), .ref m6, .int (nI tm)]))] (va_A [(m0, .inr (8, [.ref m1, .ref m2, .int (nI sm), .ref m3, .int (nI ln), .int th, .ref m4, .int lf, .int kp, .ref m5, .int (nI sp), .ref m6, .int (nI tm)]))] sz)) 0 0 (va_A [(m0, .inr (8, [.ref m1, .ref m2, .int (nI sm), .ref m3, .int (nI ln), .int th, .ref m4, .int lf, .int kp, .ref m5, .int (nI sp), .ref m6, .int (nI tm)]))] sz) := by
  refine k_met (Qf := kQi D (refB w) [(m0, .inr (8, [.ref m1, .ref m2, .int (nI sm), .ref m3, .int (nI ln), .int w, .ref m4, .int lf, .int kp, .ref m5, .int (nI sp), .ref m6, .int (nI tm)]))]) (cc := cX8_refused) (maxL := 2) (ret := (some .boolean)) (own := RX8) (by decide) rfl (Nat.le_of_ble_eq_true rfl) rfl ?_
  intro p e s m args below meth c ls A H locs hx hb hr hts hown hlocks hml hin hsz hP hK hD hA hS hN hl
  have hl : lv_has ls 2 [(0, .ref m0), (1, .int w)] := hl
  refine lv_aload_n hx hb dX8_refused_0 rfl (lv_at hl 0 rfl) ?_
  refine lv_iload_n hx hb dX8_refused_1 rfl (lv_at hl 1 rfl) ?_
  refine va_put (D := D) (ci := 8) (v := .int w) (ty := .int) (C := RX8) (T := TX8) (N := 13) hx hb hts inX8_refused_8 tyX8 tyX8_ok nmX8 hown hK hP hD hS 0 rfl rfl 5 (by decide) (hts (.fieldLink RX8 29 "WeighingConverterModel" "thrown" "I") (List.mem_of_getElem? (i := 1) rfl)) (fun _ h9 => h9) rfl (by decide +kernel) rfl rfl (Nat.le_of_ble_eq_true rfl) dX8_refused_2 (fun H locs hP hD hS => ?_)
  have hP : va_P D vwCl [(m0, .inr (8, [.ref m1, .ref m2, .int (nI sm), .ref m3, .int (nI ln), .int w, .ref m4, .int lf, .int kp, .ref m5, .int (nI sp), .ref m6, .int (nI tm)]))] H := hP
  have hD : va_D A [(m0, .inr (8, [.ref m1, .ref m2, .int (nI sm), .ref m3, .int (nI ln), .int w, .ref m4, .int lf, .int kp, .ref m5, .int (nI sp), .ref m6, .int (nI tm)]))] := hD
  refine lv_iload_n hx hb dX8_refused_5 rfl (lv_at hl 1 rfl) ?_
  refine lv_if_le (tgt := 13) hx hb dX8_refused_6 (by decide) (fun c_6 => ?_) (fun c_6 => ?_)
  · refine lv_iconst (v := 0) hx hb dX8_refused_13 (by decide) ?_
    have hP9 := hP.sub (ws' := [(m0, .inr (8, [.ref m1, .ref m2, .int (nI sm), .ref m3, .int (nI ln), .int w, .ref m4, .int lf, .int kp, .ref m5, .int (nI sp), .ref m6, .int (nI tm)]))]) [0] rfl
    have hD9 := hD.sub (ws' := [(m0, .inr (8, [.ref m1, .ref m2, .int (nI sm), .ref m3, .int (nI ln), .int w, .ref m4, .int lf, .int kp, .ref m5, .int (nI sp), .ref m6, .int (nI tm)]))]) [0] (by decide) rfl
    exact kr_z (v := 0) hx hb hr hlocks rfl hP9 hD9 hS (by rw [refB]; first | rw [if_pos c_6] | rw [if_neg c_6]) dX8_refused_14
  · refine lv_iconst (v := 1) hx hb dX8_refused_9 (by decide) ?_
    refine lv_goto (tgt := 14) hx hb dX8_refused_10 (by decide) ?_
    have hP9 := hP.sub (ws' := [(m0, .inr (8, [.ref m1, .ref m2, .int (nI sm), .ref m3, .int (nI ln), .int w, .ref m4, .int lf, .int kp, .ref m5, .int (nI sp), .ref m6, .int (nI tm)]))]) [0] rfl
    have hD9 := hD.sub (ws' := [(m0, .inr (8, [.ref m1, .ref m2, .int (nI sm), .ref m3, .int (nI ln), .int w, .ref m4, .int lf, .int kp, .ref m5, .int (nI sp), .ref m6, .int (nI tm)]))]) [0] (by decide) rfl
    exact kr_z (v := 1) hx hb hr hlocks rfl hP9 hD9 hS (by rw [refB]; first | rw [if_pos c_6] | rw [if_neg c_6]) dX8_refused_14

abbrev rmkX8_in : Room := { frames := 0, cells := 0, slots := 0, locals := 0 }
set_option maxHeartbeats 4000000 in
set_option maxRecDepth 100000 in
theorem kX8_in (l : Launch) (v : Int32) (lo : Int32) (hi : Int32) : Met l yX8_in wsX8_in rmkX8_in (va_Pc [.int v, .int lo, .int hi] (fun _ => True)) (kPi (inM v lo hi)) 0 0 (fun _ => False) := by
  refine k_met0 (cc := cX8_in) (maxL := 3) (ret := (some .boolean)) (own := RX8) (by decide) rfl (Nat.le_of_ble_eq_true rfl) rfl ?_
  intro p e s m args below meth c ls H locs hx hb hr hts hown hlocks hml hS hl
  have hl : lv_has ls 3 [(0, .int v), (1, .int lo), (2, .int hi)] := hl
  refine lv_iload_n hx hb dX8_in_0 rfl (lv_at hl 0 rfl) ?_
  refine lv_iload_n hx hb dX8_in_1 rfl (lv_at hl 1 rfl) ?_
  refine lv_icmp_lt (tgt := 14) hx hb dX8_in_2 (by decide) (fun c_2 => ?_) (fun c_2 => ?_)
  · refine lv_iconst (v := 0) hx hb dX8_in_14 (by decide) ?_
    exact kr_z0 (v := 0) hx hb hr hlocks rfl hS (by simp only [inM, c_2, ↓reduceIte]) dX8_in_15
  · refine lv_iload_n hx hb dX8_in_5 rfl (lv_at hl 0 rfl) ?_
    refine lv_iload_n hx hb dX8_in_6 rfl (lv_at hl 2 rfl) ?_
    refine lv_icmp_gt (tgt := 14) hx hb dX8_in_7 (by decide) (fun c_7 => ?_) (fun c_7 => ?_)
    · refine lv_iconst (v := 0) hx hb dX8_in_14 (by decide) ?_
      exact kr_z0 (v := 0) hx hb hr hlocks rfl hS (by simp only [inM, c_2, c_7, ↓reduceIte]) dX8_in_15
    · refine lv_iconst (v := 1) hx hb dX8_in_10 (by decide) ?_
      refine lv_goto (tgt := 15) hx hb dX8_in_11 (by decide) ?_
      exact kr_z0 (v := 1) hx hb hr hlocks rfl hS (by simp only [inM, c_2, c_7, ↓reduceIte]) dX8_in_15

abbrev rmkX8_held : Room := { frames := 0, cells := 0, slots := 0, locals := 0 }
set_option maxHeartbeats 4000000 in
set_option maxRecDepth 100000 in
theorem kX8_held (l : Launch) (v : Int32) (leak : Int32) : Met l yX8_held wsX8_held rmkX8_held (va_Pc [.int v, .int leak] (fun _ => True)) (kPi (hTick v leak)) 0 0 (fun _ => False) := by
  refine k_met0 (cc := cX8_held) (maxL := 2) (ret := (some .int)) (own := RX8) (by decide) rfl (Nat.le_of_ble_eq_true rfl) rfl ?_
  intro p e s m args below meth c ls H locs hx hb hr hts hown hlocks hml hS hl
  have hl : lv_has ls 2 [(0, .int v), (1, .int leak)] := hl
  refine lv_iload_n hx hb dX8_held_0 rfl (lv_at hl 0 rfl) ?_
  refine lv_iload_n hx hb dX8_held_1 rfl (lv_at hl 0 rfl) ?_
  refine lv_iload_n hx hb dX8_held_2 rfl (lv_at hl 1 rfl) ?_
  refine lv_imul hx hb dX8_held_3 ?_
  refine lv_sipush (v := 4096) hx hb dX8_held_4 (by decide) ?_
  refine lv_idiv hx hb dX8_held_7 (by decide) ?_
  refine lv_isub hx hb dX8_held_8 ?_
  exact kr_i0 (v := v - ((v * leak) / 4096)) hx hb hr hlocks hS rfl dX8_held_9

theorem inX8_isWeight_8 : ∀ w ∈ wsX80, w ∈ wsX8_isWeight := fun _ h => List.mem_cons_of_mem _ (List.mem_append_right _ h)
abbrev rmkX8_isWeight : Room := { frames := 1, cells := 0, slots := 0, locals := 22 }
set_option maxHeartbeats 4000000 in
set_option maxRecDepth 100000 in
theorem kX8_isWeight (l : Launch) (D : va_G) (sz : Nat) (cI : ClassId) (cC : ClassId) (cJ : ClassId) (cZ : ClassId) (cQ : ClassId) (m0 : Nat) (m1 : Nat) (m2 : Nat) (m3 : Nat) (m4 : Nat) (m5 : Nat) (m6 : Nat) (sm : Nat) (ln : Nat) (sp : Nat) (tm : Nat) (th : Int32) (lf : Int32) (kp : Int32) (z : StV) (w : Int32) : Met l yX8_isWeight wsX8_isWeight rmkX8_isWeight (va_Pc [.ref m0, .int w] (kPre D sz [(m0, .inr (8, [.ref m1, .ref m2, .int (nI sm), .ref m3, .int (nI ln), .int th, .ref m4, .int lf, .int kp, .ref m5, .int (nI sp), .ref m6, .int (nI tm)])), (m1, .inl (cI, 43, .inl (zArr z)))] (kT cI cC cJ cZ cQ))) (kQi D (inM w 0 (nI z.2.2.2.2.2.1 - 1)) [(m0, .inr (8, [.ref m1, .ref m2, .int (nI sm), .ref m3, .int (nI ln), .int th, .ref m4, .int lf, .int kp, .ref m5, .int (nI sp), .ref m6, .int (nI tm)])), (m1, .inl (cI, 43, .inl (zArr z)))] (va_A [(m0, .inr (8, [.ref m1, .ref m2, .int (nI sm), .ref m3, .int (nI ln), .int th, .ref m4, .int lf, .int kp, .ref m5, .int (nI sp), .ref m6, .int (nI tm)])), (m1, .inl (cI, 43, .inl (zArr z)))] sz)) 0 0 (va_A [(m0, .inr (8, [.ref m1, .ref m2, .int (nI sm), .ref m3, .int (nI ln), .int th, .ref m4, .int lf, .int kp, .ref m5, .int (nI sp), .ref m6, .int (nI tm)])), (m1, .inl (cI, 43, .inl (zArr z)))] sz) := by
  refine k_met (Qf := kQi D (inM w 0 (nI z.2.2.2.2.2.1 - 1)) [(m0, .inr (8, [.ref m1, .ref m2, .int (nI sm), .ref m3, .int (nI ln), .int th, .ref m4, .int lf, .int kp, .ref m5, .int (nI sp), .ref m6, .int (nI tm)])), (m1, .inl (cI, 43, .inl (zArr z)))]) (cc := cX8_isWeight) (maxL := 2) (ret := (some .boolean)) (own := RX8) (by decide) rfl (Nat.le_of_ble_eq_true rfl) rfl ?_
  intro p e s m args below meth c ls A H locs hx hb hr hts hown hlocks hml hin hsz hP hK hD hA hS hN hl
  have hl : lv_has ls 2 [(0, .ref m0), (1, .int w)] := hl
  refine lv_iload_n hx hb dX8_isWeight_0 rfl (lv_at hl 1 rfl) ?_
  refine lv_iconst (v := 0) hx hb dX8_isWeight_1 (by decide) ?_
  refine lv_aload_n hx hb dX8_isWeight_2 rfl (lv_at hl 0 rfl) ?_
  refine va_get (D := D) (ci := 8) (v := .ref m1) (C := RX8) (T := TX8) (N := 13) hx hb hts inX8_isWeight_8 hown hK hP 0 rfl rfl 0 (by decide) (hts (.fieldLink RX8 7 "WeighingConverterModel" "z" "[I") (List.mem_of_getElem? (i := 1) rfl)) (fun _ h9 => h9) rfl dX8_isWeight_3 ?_
  refine lv_iconst (v := 5) hx hb dX8_isWeight_6 (by decide) ?_
  refine k_iald (k := 5) hx hb hK hP 1 0 rfl rfl (by omega) (by decide) dX8_isWeight_7 ?_
  refine k_topi (y := nI z.2.2.2.2.2.1) rfl ?_
  refine lv_iconst (v := 1) hx hb dX8_isWeight_8 (by decide) ?_
  refine lv_isub hx hb dX8_isWeight_9 ?_
  refine ks_i0 (As := [.int w, .int 0, .int ((nI z.2.2.2.2.2.1) - 1)]) (rest := []) ⟨hx, hb, hml, hown, hts⟩ (kX8_in l w 0 ((nI z.2.2.2.2.2.1) - 1)) (va_cwS 3 hts gX8_isWeight_X8_in rfl rfl rfl (by decide +kernel) ⟨Nat.le_of_ble_eq_true rfl, Nat.le_of_ble_eq_true rfl⟩) hP hS rfl hl.1 rfl (Nat.le_of_ble_eq_true rfl) dX8_isWeight_10 ⟨Nat.zero_le _, Nat.zero_le _⟩ (fun H locs hP hS => ?_)
  have hP9 := hP.sub (ws' := [(m0, .inr (8, [.ref m1, .ref m2, .int (nI sm), .ref m3, .int (nI ln), .int th, .ref m4, .int lf, .int kp, .ref m5, .int (nI sp), .ref m6, .int (nI tm)])), (m1, .inl (cI, 43, .inl (zArr z)))]) [0, 1] rfl
  have hD9 := hD.sub (ws' := [(m0, .inr (8, [.ref m1, .ref m2, .int (nI sm), .ref m3, .int (nI ln), .int th, .ref m4, .int lf, .int kp, .ref m5, .int (nI sp), .ref m6, .int (nI tm)])), (m1, .inl (cI, 43, .inl (zArr z)))]) [0, 1] (by decide) rfl
  exact kr_z (v := inM w 0 ((nI z.2.2.2.2.2.1) - 1)) hx hb hr hlocks (nz_inM _ _ _) hP9 hD9 hS rfl dX8_isWeight_13

theorem inX8_isLogged_8 : ∀ w ∈ wsX80, w ∈ wsX8_isLogged := fun _ h => List.mem_cons_of_mem _ (List.mem_append_right _ h)
abbrev rmkX8_isLogged : Room := { frames := 1, cells := 0, slots := 0, locals := 22 }
set_option maxHeartbeats 4000000 in
set_option maxRecDepth 100000 in
theorem kX8_isLogged (l : Launch) (D : va_G) (sz : Nat) (cI : ClassId) (cC : ClassId) (cJ : ClassId) (cZ : ClassId) (cQ : ClassId) (m0 : Nat) (m1 : Nat) (m2 : Nat) (m3 : Nat) (m4 : Nat) (m5 : Nat) (m6 : Nat) (sm : Nat) (ln : Nat) (sp : Nat) (tm : Nat) (th : Int32) (lf : Int32) (kp : Int32) (z : StV) (w : Int32) : Met l yX8_isLogged wsX8_isLogged rmkX8_isLogged (va_Pc [.ref m0, .int w] (kPre D sz [(m0, .inr (8, [.ref m1, .ref m2, .int (nI sm), .ref m3, .int (nI ln), .int th, .ref m4, .int lf, .int kp, .ref m5, .int (nI sp), .ref m6, .int (nI tm)])), (m1, .inl (cI, 43, .inl (zArr z)))] (kT cI cC cJ cZ cQ))) (kQi D (inM w 0 (nI z.2.2.2.2.2.2.1 - 1)) [(m0, .inr (8, [.ref m1, .ref m2, .int (nI sm), .ref m3, .int (nI ln), .int th, .ref m4, .int lf, .int kp, .ref m5, .int (nI sp), .ref m6, .int (nI tm)])), (m1, .inl (cI, 43, .inl (zArr z)))] (va_A [(m0, .inr (8, [.ref m1, .ref m2, .int (nI sm), .ref m3, .int (nI ln), .int th, .ref m4, .int lf, .int kp, .ref m5, .int (nI sp), .ref m6, .int (nI tm)])), (m1, .inl (cI, 43, .inl (zArr z)))] sz)) 0 0 (va_A [(m0, .inr (8, [.ref m1, .ref m2, .int (nI sm), .ref m3, .int (nI ln), .int th, .ref m4, .int lf, .int kp, .ref m5, .int (nI sp), .ref m6, .int (nI tm)])), (m1, .inl (cI, 43, .inl (zArr z)))] sz) := by
  refine k_met (Qf := kQi D (inM w 0 (nI z.2.2.2.2.2.2.1 - 1)) [(m0, .inr (8, [.ref m1, .ref m2, .int (nI sm), .ref m3, .int (nI ln), .int th, .ref m4, .int lf, .int kp, .ref m5, .int (nI sp), .ref m6, .int (nI tm)])), (m1, .inl (cI, 43, .inl (zArr z)))]) (cc := cX8_isLogged) (maxL := 2) (ret := (some .boolean)) (own := RX8) (by decide) rfl (Nat.le_of_ble_eq_true rfl) rfl ?_
  intro p e s m args below meth c ls A H locs hx hb hr hts hown hlocks hml hin hsz hP hK hD hA hS hN hl
  have hl : lv_has ls 2 [(0, .ref m0), (1, .int w)] := hl
  refine lv_iload_n hx hb dX8_isLogged_0 rfl (lv_at hl 1 rfl) ?_
  refine lv_iconst (v := 0) hx hb dX8_isLogged_1 (by decide) ?_
  refine lv_aload_n hx hb dX8_isLogged_2 rfl (lv_at hl 0 rfl) ?_
  refine va_get (D := D) (ci := 8) (v := .ref m1) (C := RX8) (T := TX8) (N := 13) hx hb hts inX8_isLogged_8 hown hK hP 0 rfl rfl 0 (by decide) (hts (.fieldLink RX8 7 "WeighingConverterModel" "z" "[I") (List.mem_of_getElem? (i := 1) rfl)) (fun _ h9 => h9) rfl dX8_isLogged_3 ?_
  refine lv_bipush (v := 6) hx hb dX8_isLogged_6 (by decide) ?_
  refine k_iald (k := 6) hx hb hK hP 1 0 rfl rfl (by omega) (by decide) dX8_isLogged_8 ?_
  refine k_topi (y := nI z.2.2.2.2.2.2.1) rfl ?_
  refine lv_iconst (v := 1) hx hb dX8_isLogged_9 (by decide) ?_
  refine lv_isub hx hb dX8_isLogged_10 ?_
  refine ks_i0 (As := [.int w, .int 0, .int ((nI z.2.2.2.2.2.2.1) - 1)]) (rest := []) ⟨hx, hb, hml, hown, hts⟩ (kX8_in l w 0 ((nI z.2.2.2.2.2.2.1) - 1)) (va_cwS 3 hts gX8_isLogged_X8_in rfl rfl rfl (by decide +kernel) ⟨Nat.le_of_ble_eq_true rfl, Nat.le_of_ble_eq_true rfl⟩) hP hS rfl hl.1 rfl (Nat.le_of_ble_eq_true rfl) dX8_isLogged_11 ⟨Nat.zero_le _, Nat.zero_le _⟩ (fun H locs hP hS => ?_)
  have hP9 := hP.sub (ws' := [(m0, .inr (8, [.ref m1, .ref m2, .int (nI sm), .ref m3, .int (nI ln), .int th, .ref m4, .int lf, .int kp, .ref m5, .int (nI sp), .ref m6, .int (nI tm)])), (m1, .inl (cI, 43, .inl (zArr z)))]) [0, 1] rfl
  have hD9 := hD.sub (ws' := [(m0, .inr (8, [.ref m1, .ref m2, .int (nI sm), .ref m3, .int (nI ln), .int th, .ref m4, .int lf, .int kp, .ref m5, .int (nI sp), .ref m6, .int (nI tm)])), (m1, .inl (cI, 43, .inl (zArr z)))]) [0, 1] (by decide) rfl
  exact kr_z (v := inM w 0 ((nI z.2.2.2.2.2.2.1) - 1)) hx hb hr hlocks (nz_inM _ _ _) hP9 hD9 hS rfl dX8_isLogged_14

abbrev rmkX8_copyState : Room := { frames := 0, cells := 0, slots := 0, locals := 0 }
set_option maxHeartbeats 4000000 in
set_option maxRecDepth 100000 in
theorem kX8_copyState (l : Launch) (D : va_G) (sz : Nat) (cI : ClassId) (cC : ClassId) (cJ : ClassId) (cZ : ClassId) (cQ : ClassId) (p0 : Nat) (q0 : Nat) (a : Nat) (b : Nat) (n1 : Nat) (n2 : Nat) (f : Nat → Int32) (g : Nat → Int32) (h1 : a + 43 ≤ n1) (h2 : b + 43 ≤ n2) (h3 : n1 ≤ 4096) (h4 : n2 ≤ 4096) : Met l yX8_copyState wsX8_copyState rmkX8_copyState (va_Pc [.ref p0, .int (nI a), .ref q0, .int (nI b)] (kPre D sz [(p0, .inl (cI, n1, .inl f)), (q0, .inl (cI, n2, .inl g))] (kT cI cC cJ cZ cQ))) (kQv D [(p0, .inl (cI, n1, .inl f)), (q0, .inl (cI, n2, .inl (cpS f g a b)))] (va_A [(p0, .inl (cI, n1, .inl f)), (q0, .inl (cI, n2, .inl g))] sz)) 0 0 (va_A [(p0, .inl (cI, n1, .inl f)), (q0, .inl (cI, n2, .inl g))] sz) := by
  refine k_met (Qf := kQv D [(p0, .inl (cI, n1, .inl f)), (q0, .inl (cI, n2, .inl (cpS f g a b)))]) (cc := cX8_copyState) (maxL := 5) (ret := none) (own := RX8) (by decide) rfl (Nat.le_of_ble_eq_true rfl) rfl ?_
  intro p e s m args below meth c ls A H locs hx hb hr hts hown hlocks hml hin hsz hP hK hD hA hS hN hl
  have hl : lv_has ls 5 [(0, .ref p0), (1, .int (nI a)), (2, .ref q0), (3, .int (nI b))] := hl
  refine lv_iconst (v := 0) hx hb dX8_copyState_0 (by decide) ?_
  refine lv_istore (lv' := [(4, .int 0), (0, .ref p0), (1, .int (nI a)), (2, .ref q0), (3, .int (nI b))]) hx hb dX8_copyState_1 hl (by decide) rfl (fun ls hl => ?_)
  have J3 : ∀ (fuel : Nat) (k : Nat) (h : Nat → Int32) (hk : k ≤ 43) (hg : ∀ j, h j = if b ≤ j ∧ j < b + k then f (a + (j - b)) else g j) (hm : 43 - k < fuel) (H : Heap) (locs : List Loc) (hP : va_P D vwCl [(p0, .inl (cI, n1, .inl f)), (q0, .inl (cI, n2, .inl h))] H) (hD : va_D A [(p0, .inl (cI, n1, .inl f)), (q0, .inl (cI, n2, .inl h))]) (hS : va_S A s.heap H locs) (ls : Array Slot) (hl : lv_has ls 5 [(4, .int (nI k)), (0, .ref p0), (1, .int (nI a)), (2, .ref q0), (3, .int (nI b))]), W p l e rmkX8_copyState s m args below meth c H locs 0 0 (MQ below (kQv D [(p0, .inl (cI, n1, .inl f)), (q0, .inl (cI, n2, .inl (cpS f g a b)))] A) args s 0 0 A) (F0 m 3 ls []) := by
    intro fuel
    induction fuel with
    | zero => intro k h hk hg hm; exact absurd hm (Nat.not_lt_zero _)
    | succ fuel ih3 =>
      intro k h hk hg hm H locs hP hD hS ls hl
      refine lv_iload hx hb dX8_copyState_3 (lv_at hl 0 rfl) ?_
      refine lv_bipush (v := 43) hx hb dX8_copyState_5 (by decide) ?_
      refine lv_icmp_ge (tgt := 28) hx hb dX8_copyState_7 (by decide) (fun c_7 => ?_) (fun c_7 => ?_)
      · have c_7 : 43 ≤ k := (nI_leI (a := 43) (b := k) (by omega) (by omega)).mp c_7
        have hP := k_arr hP 1 rfl (g := cpS f g a b) (fun j _ => by rw [hg, cpS, show k = 43 from by omega])
        have hD := hD.set (p := 1) (e := .inl (cI, n2, .inl (cpS f g a b))) rfl
        have hP : va_P D vwCl [(p0, .inl (cI, n1, .inl f)), (q0, .inl (cI, n2, .inl (cpS f g a b)))] H := hP
        have hD : va_D A [(p0, .inl (cI, n1, .inl f)), (q0, .inl (cI, n2, .inl (cpS f g a b)))] := hD
        have hP9 := hP.sub (ws' := [(p0, .inl (cI, n1, .inl f)), (q0, .inl (cI, n2, .inl (cpS f g a b)))]) [0, 1] rfl
        have hD9 := hD.sub (ws' := [(p0, .inl (cI, n1, .inl f)), (q0, .inl (cI, n2, .inl (cpS f g a b)))]) [0, 1] (by decide) rfl
        exact kr_v hx hb hr hlocks hP9 hD9 hS dX8_copyState_28
      · have c_7 : ¬ 43 ≤ k := fun h => c_7 ((nI_leI (a := 43) (b := k) (by omega) (by omega)).mpr h)
        refine lv_aload_n hx hb dX8_copyState_10 rfl (lv_at hl 3 rfl) ?_
        refine lv_iload_n hx hb dX8_copyState_11 rfl (lv_at hl 4 rfl) ?_
        refine lv_iload hx hb dX8_copyState_12 (lv_at hl 0 rfl) ?_
        refine lv_iadd hx hb dX8_copyState_14 ?_
        refine k_topi (y := nI (b + k)) (nI_add b k) ?_
        refine lv_aload_n hx hb dX8_copyState_15 rfl (lv_at hl 1 rfl) ?_
        refine lv_iload_n hx hb dX8_copyState_16 rfl (lv_at hl 2 rfl) ?_
        refine lv_iload hx hb dX8_copyState_17 (lv_at hl 0 rfl) ?_
        refine lv_iadd hx hb dX8_copyState_19 ?_
        refine k_topi (y := nI (a + k)) (nI_add a k) ?_
        refine k_iald (k := a + k) hx hb hK hP 0 0 rfl rfl (by omega) (by omega) dX8_copyState_20 ?_
        refine k_iast (k := b + k) hx hb hK hP hD hS 1 0 rfl rfl (by omega) (by omega) dX8_copyState_21 (fun H locs hP hD hS => ?_)
        have hP : va_P D vwCl [(p0, .inl (cI, n1, .inl f)), (q0, .inl (cI, n2, .inl (upd h (b + k) (f (a + k)))))] H := hP
        have hD : va_D A [(p0, .inl (cI, n1, .inl f)), (q0, .inl (cI, n2, .inl (upd h (b + k) (f (a + k)))))] := hD
        refine lv_iinc (v := nI (k + 1)) (lv' := [(4, .int (nI (k + 1))), (0, .ref p0), (1, .int (nI a)), (2, .ref q0), (3, .int (nI b))]) hx hb dX8_copyState_22 hl (k := 0) rfl (by exact k_inc k) (by decide) rfl (fun ls hl => ?_)
        refine lv_goto (tgt := 3) hx hb dX8_copyState_25 (by decide) ?_
        exact ih3 (k + 1) (upd h (b + k) (f (a + k))) (by first | assumption | omega) (fun j => by simp only [upd, hg]; (repeat' split) <;> first | rfl | omega | exact congrArg _ (by omega) | (congr 1; omega)) (by omega) _ _ (hP.sub [0, 1] rfl) (hD.sub [0, 1] (by decide) rfl) hS _ (lv_sub hl [0, 1, 2, 3, 4] rfl)
  exact J3 (43 - 0 + 1) 0 g (by first | assumption | omega) (fun j => by rw [if_neg (by omega)]) (Nat.lt_succ_self _) _ _ (hP.sub [0, 1] rfl) (hD.sub [0, 1] (by decide) rfl) hS _ (lv_sub hl [0, 1, 2, 3, 4] rfl)

theorem inX8_saveState_8 : ∀ w ∈ wsX80, w ∈ wsX8_saveState := fun _ h => List.mem_cons_of_mem _ (List.mem_append_right _ h)
abbrev rmkX8_saveState : Room := { frames := 1, cells := 0, slots := 0, locals := 24 }
set_option maxHeartbeats 4000000 in
set_option maxRecDepth 100000 in
theorem kX8_saveState (l : Launch) (D : va_G) (sz : Nat) (cI : ClassId) (cC : ClassId) (cJ : ClassId) (cZ : ClassId) (cQ : ClassId) (m0 : Nat) (m1 : Nat) (m2 : Nat) (m3 : Nat) (m4 : Nat) (m5 : Nat) (m6 : Nat) (sm : Nat) (ln : Nat) (sp : Nat) (tm : Nat) (th : Int32) (lf : Int32) (kp : Int32) (z : StV) (T : Nat → StV) (hsm : sm ≤ 6) : Met l yX8_saveState wsX8_saveState rmkX8_saveState (va_Pc [.ref m0] (kPre D sz [(m0, .inr (8, [.ref m1, .ref m2, .int (nI sm), .ref m3, .int (nI ln), .int th, .ref m4, .int lf, .int kp, .ref m5, .int (nI sp), .ref m6, .int (nI tm)])), (m1, .inl (cI, 43, .inl (zArr z))), (m2, .inl (cI, 258, .inl (sArr T)))] (kT cI cC cJ cZ cQ))) (kQv D [(m0, .inr (8, [.ref m1, .ref m2, .int (nI (min (sm + 1) 6)), .ref m3, .int (nI ln), .int th, .ref m4, .int lf, .int kp, .ref m5, .int (nI sp), .ref m6, .int (nI tm)])), (m1, .inl (cI, 43, .inl (zArr z))), (m2, .inl (cI, 258, .inl (sArr (svS T sm z))))] (va_A [(m0, .inr (8, [.ref m1, .ref m2, .int (nI sm), .ref m3, .int (nI ln), .int th, .ref m4, .int lf, .int kp, .ref m5, .int (nI sp), .ref m6, .int (nI tm)])), (m1, .inl (cI, 43, .inl (zArr z))), (m2, .inl (cI, 258, .inl (sArr T)))] sz)) 0 0 (va_A [(m0, .inr (8, [.ref m1, .ref m2, .int (nI sm), .ref m3, .int (nI ln), .int th, .ref m4, .int lf, .int kp, .ref m5, .int (nI sp), .ref m6, .int (nI tm)])), (m1, .inl (cI, 43, .inl (zArr z))), (m2, .inl (cI, 258, .inl (sArr T)))] sz) := by
  refine k_met (Qf := kQv D [(m0, .inr (8, [.ref m1, .ref m2, .int (nI (min (sm + 1) 6)), .ref m3, .int (nI ln), .int th, .ref m4, .int lf, .int kp, .ref m5, .int (nI sp), .ref m6, .int (nI tm)])), (m1, .inl (cI, 43, .inl (zArr z))), (m2, .inl (cI, 258, .inl (sArr (svS T sm z))))]) (cc := cX8_saveState) (maxL := 2) (ret := none) (own := RX8) (by decide) rfl (Nat.le_of_ble_eq_true rfl) rfl ?_
  intro p e s m args below meth c ls A H locs hx hb hr hts hown hlocks hml hin hsz hP hK hD hA hS hN hl
  have hl : lv_has ls 2 [(0, .ref m0)] := hl
  refine lv_aload_n hx hb dX8_saveState_0 rfl (lv_at hl 0 rfl) ?_
  refine va_get (D := D) (ci := 8) (v := .int (nI sm)) (C := RX8) (T := TX8) (N := 13) hx hb hts inX8_saveState_8 hown hK hP 0 rfl rfl 2 (by decide) (hts (.fieldLink RX8 37 "WeighingConverterModel" "savedMany" "I") (List.mem_of_getElem? (i := 1) rfl)) (fun _ h9 => h9) rfl dX8_saveState_1 ?_
  refine lv_bipush (v := 6) hx hb dX8_saveState_4 (by decide) ?_
  refine lv_icmp_ne (tgt := 49) hx hb dX8_saveState_6 (by decide) (fun c_6 => ?_) (fun c_6 => ?_)
  · have c_6 : ¬ sm = 6 := fun h => c_6 ((nI_eq (a := sm) (b := 6) (by omega) (by omega)).mpr h)
    refine lv_aload_n hx hb dX8_saveState_49 rfl (lv_at hl 0 rfl) ?_
    refine va_get (D := D) (ci := 8) (v := .ref m1) (C := RX8) (T := TX8) (N := 13) hx hb hts inX8_saveState_8 hown hK hP 0 rfl rfl 0 (by decide) (hts (.fieldLink RX8 7 "WeighingConverterModel" "z" "[I") (List.mem_of_getElem? (i := 3) rfl)) (fun _ h9 => h9) rfl dX8_saveState_50 ?_
    refine lv_iconst (v := 0) hx hb dX8_saveState_53 (by decide) ?_
    refine lv_aload_n hx hb dX8_saveState_54 rfl (lv_at hl 0 rfl) ?_
    refine va_get (D := D) (ci := 8) (v := .ref m2) (C := RX8) (T := TX8) (N := 13) hx hb hts inX8_saveState_8 hown hK hP 0 rfl rfl 1 (by decide) (hts (.fieldLink RX8 13 "WeighingConverterModel" "saved" "[I") (List.mem_of_getElem? (i := 2) rfl)) (fun _ h9 => h9) rfl dX8_saveState_55 ?_
    refine lv_bipush (v := 43) hx hb dX8_saveState_58 (by decide) ?_
    refine lv_aload_n hx hb dX8_saveState_60 rfl (lv_at hl 0 rfl) ?_
    refine va_get (D := D) (ci := 8) (v := .int (nI sm)) (C := RX8) (T := TX8) (N := 13) hx hb hts inX8_saveState_8 hown hK hP 0 rfl rfl 2 (by decide) (hts (.fieldLink RX8 37 "WeighingConverterModel" "savedMany" "I") (List.mem_of_getElem? (i := 1) rfl)) (fun _ h9 => h9) rfl dX8_saveState_61 ?_
    refine lv_imul hx hb dX8_saveState_64 ?_
    refine k_topi (y := nI (43 * sm)) (pk_mul 43 sm) ?_
    refine ks_v (As := [.ref m1, .int 0, .ref m2, .int (nI (43 * sm))]) (rest := []) (wr := [(m0, .inr (8, [.ref m1, .ref m2, .int (nI sm), .ref m3, .int (nI ln), .int th, .ref m4, .int lf, .int kp, .ref m5, .int (nI sp), .ref m6, .int (nI tm)]))]) ⟨hx, hb, hml, hown, hts⟩ (kX8_copyState l D H.size cI cC cJ cZ cQ m1 m2 0 (43 * sm) 43 258 (zArr z) (sArr T) (by first | assumption | omega) (by first | assumption | omega) (by first | assumption | omega) (by first | assumption | omega)) (va_cwS 4 hts gX8_saveState_X8_copyState rfl rfl rfl (by decide +kernel) ⟨Nat.le_of_ble_eq_true rfl, Nat.le_of_ble_eq_true rfl⟩) hP hD hK hS hA hN [1, 2] [0] rfl rfl (by decide) (by decide) (by decide) rfl hl.1 rfl (Nat.le_of_ble_eq_true rfl) dX8_saveState_65 ⟨Nat.zero_le _, Nat.zero_le _⟩ (fun H locs hP hD hS => ?_)
    have hP : va_P D vwCl [(m0, .inr (8, [.ref m1, .ref m2, .int (nI sm), .ref m3, .int (nI ln), .int th, .ref m4, .int lf, .int kp, .ref m5, .int (nI sp), .ref m6, .int (nI tm)])), (m1, .inl (cI, 43, .inl (zArr z))), (m2, .inl (cI, 258, .inl (cpS (zArr z) (sArr T) 0 (43 * sm))))] H := hP
    have hD : va_D A [(m0, .inr (8, [.ref m1, .ref m2, .int (nI sm), .ref m3, .int (nI ln), .int th, .ref m4, .int lf, .int kp, .ref m5, .int (nI sp), .ref m6, .int (nI tm)])), (m1, .inl (cI, 43, .inl (zArr z))), (m2, .inl (cI, 258, .inl (cpS (zArr z) (sArr T) 0 (43 * sm))))] := hD
    refine lv_aload_n hx hb dX8_saveState_68 rfl (lv_at hl 0 rfl) ?_
    refine lv_dup hx hb dX8_saveState_69 rfl ?_
    refine va_get (D := D) (ci := 8) (v := .int (nI sm)) (C := RX8) (T := TX8) (N := 13) hx hb hts inX8_saveState_8 hown hK hP 0 rfl rfl 2 (by decide) (hts (.fieldLink RX8 37 "WeighingConverterModel" "savedMany" "I") (List.mem_of_getElem? (i := 1) rfl)) (fun _ h9 => h9) rfl dX8_saveState_70 ?_
    refine lv_iconst (v := 1) hx hb dX8_saveState_73 (by decide) ?_
    refine lv_iadd hx hb dX8_saveState_74 ?_
    refine k_topi (y := nI (sm + 1)) (nI_add sm 1) ?_
    refine va_put (D := D) (ci := 8) (v := .int (nI (sm + 1))) (ty := .int) (C := RX8) (T := TX8) (N := 13) hx hb hts inX8_saveState_8 tyX8 tyX8_ok nmX8 hown hK hP hD hS 0 rfl rfl 2 (by decide) (hts (.fieldLink RX8 37 "WeighingConverterModel" "savedMany" "I") (List.mem_of_getElem? (i := 1) rfl)) (fun _ h9 => h9) rfl (by decide +kernel) rfl rfl (Nat.le_of_ble_eq_true rfl) dX8_saveState_75 (fun H locs hP hD hS => ?_)
    have hP : va_P D vwCl [(m0, .inr (8, [.ref m1, .ref m2, .int (nI (sm + 1)), .ref m3, .int (nI ln), .int th, .ref m4, .int lf, .int kp, .ref m5, .int (nI sp), .ref m6, .int (nI tm)])), (m1, .inl (cI, 43, .inl (zArr z))), (m2, .inl (cI, 258, .inl (cpS (zArr z) (sArr T) 0 (43 * sm))))] H := hP
    have hD : va_D A [(m0, .inr (8, [.ref m1, .ref m2, .int (nI (sm + 1)), .ref m3, .int (nI ln), .int th, .ref m4, .int lf, .int kp, .ref m5, .int (nI sp), .ref m6, .int (nI tm)])), (m1, .inl (cI, 43, .inl (zArr z))), (m2, .inl (cI, 258, .inl (cpS (zArr z) (sArr T) 0 (43 * sm))))] := hD
    have hP := k_arr hP 2 rfl (g := sArr (svS T sm z)) (svS_b c_6 (by omega))
    have hD := hD.set (p := 2) (e := .inl (cI, 258, .inl (sArr (svS T sm z)))) rfl
    have hP : va_P D vwCl [(m0, .inr (8, [.ref m1, .ref m2, .int (nI (sm + 1)), .ref m3, .int (nI ln), .int th, .ref m4, .int lf, .int kp, .ref m5, .int (nI sp), .ref m6, .int (nI tm)])), (m1, .inl (cI, 43, .inl (zArr z))), (m2, .inl (cI, 258, .inl (sArr (svS T sm z))))] H := hP
    have hD : va_D A [(m0, .inr (8, [.ref m1, .ref m2, .int (nI (sm + 1)), .ref m3, .int (nI ln), .int th, .ref m4, .int lf, .int kp, .ref m5, .int (nI sp), .ref m6, .int (nI tm)])), (m1, .inl (cI, 43, .inl (zArr z))), (m2, .inl (cI, 258, .inl (sArr (svS T sm z))))] := hD
    have hP9 : va_P D vwCl [(m0, .inr (8, [.ref m1, .ref m2, .int (nI (min (sm + 1) 6)), .ref m3, .int (nI ln), .int th, .ref m4, .int lf, .int kp, .ref m5, .int (nI sp), .ref m6, .int (nI tm)])), (m1, .inl (cI, 43, .inl (zArr z))), (m2, .inl (cI, 258, .inl (sArr (svS T sm z))))] H := by rw [show min (sm + 1) 6 = sm + 1 from by omega]; exact hP.sub [0, 1, 2] rfl
    have hD9 : va_D A [(m0, .inr (8, [.ref m1, .ref m2, .int (nI (min (sm + 1) 6)), .ref m3, .int (nI ln), .int th, .ref m4, .int lf, .int kp, .ref m5, .int (nI sp), .ref m6, .int (nI tm)])), (m1, .inl (cI, 43, .inl (zArr z))), (m2, .inl (cI, 258, .inl (sArr (svS T sm z))))] := by rw [show min (sm + 1) 6 = sm + 1 from by omega]; exact hD.sub [0, 1, 2] (by decide) rfl
    exact kr_v hx hb hr hlocks hP9 hD9 hS dX8_saveState_78
  · have c_6 : sm = 6 := (nI_eq (a := sm) (b := 6) (by omega) (by omega)).mp c_6
    subst c_6
    refine lv_iconst (v := 0) hx hb dX8_saveState_9 (by decide) ?_
    refine lv_istore_n (lv' := [(1, .int 0), (0, .ref m0)]) hx hb dX8_saveState_10 rfl hl (by decide) rfl (fun ls hl => ?_)
    have J11 : ∀ (fuel : Nat) (k : Nat) (h : Nat → Int32) (hk : k ≤ 215) (hg : ∀ j, h j = if j < k then sArr T (j + 43) else sArr T j) (hm : 215 - k < fuel) (H : Heap) (locs : List Loc) (hP : va_P D vwCl [(m0, .inr (8, [.ref m1, .ref m2, .int (nI 6), .ref m3, .int (nI ln), .int th, .ref m4, .int lf, .int kp, .ref m5, .int (nI sp), .ref m6, .int (nI tm)])), (m1, .inl (cI, 43, .inl (zArr z))), (m2, .inl (cI, 258, .inl h))] H) (hD : va_D A [(m0, .inr (8, [.ref m1, .ref m2, .int (nI 6), .ref m3, .int (nI ln), .int th, .ref m4, .int lf, .int kp, .ref m5, .int (nI sp), .ref m6, .int (nI tm)])), (m1, .inl (cI, 43, .inl (zArr z))), (m2, .inl (cI, 258, .inl h))]) (hS : va_S A s.heap H locs) (ls : Array Slot) (hl : lv_has ls 2 [(1, .int (nI k)), (0, .ref m0)]), W p l e rmkX8_saveState s m args below meth c H locs 0 0 (MQ below (kQv D [(m0, .inr (8, [.ref m1, .ref m2, .int (nI (min (6 + 1) 6)), .ref m3, .int (nI ln), .int th, .ref m4, .int lf, .int kp, .ref m5, .int (nI sp), .ref m6, .int (nI tm)])), (m1, .inl (cI, 43, .inl (zArr z))), (m2, .inl (cI, 258, .inl (sArr (svS T 6 z))))] A) args s 0 0 A) (F0 m 11 ls []) := by
      intro fuel
      induction fuel with
      | zero => intro k h hk hg hm; exact absurd hm (Nat.not_lt_zero _)
      | succ fuel ih11 =>
        intro k h hk hg hm H locs hP hD hS ls hl
        refine lv_iload_n hx hb dX8_saveState_11 rfl (lv_at hl 0 rfl) ?_
        refine lv_sipush (v := 215) hx hb dX8_saveState_12 (by decide) ?_
        refine lv_icmp_ge (tgt := 39) hx hb dX8_saveState_15 (by decide) (fun c_15 => ?_) (fun c_15 => ?_)
        · have c_15 : 215 ≤ k := (nI_leI (a := 215) (b := k) (by omega) (by omega)).mp c_15
          refine lv_aload_n hx hb dX8_saveState_39 rfl (lv_at hl 1 rfl) ?_
          refine lv_dup hx hb dX8_saveState_40 rfl ?_
          refine va_get (D := D) (ci := 8) (v := .int (nI 6)) (C := RX8) (T := TX8) (N := 13) hx hb hts inX8_saveState_8 hown hK hP 0 rfl rfl 2 (by decide) (hts (.fieldLink RX8 37 "WeighingConverterModel" "savedMany" "I") (List.mem_of_getElem? (i := 1) rfl)) (fun _ h9 => h9) rfl dX8_saveState_41 ?_
          refine lv_iconst (v := 1) hx hb dX8_saveState_44 (by decide) ?_
          refine lv_isub hx hb dX8_saveState_45 ?_
          refine k_topi (y := nI (6 - 1)) (pk_sub (a := 6) (b := 1) (by omega)) ?_
          refine va_put (D := D) (ci := 8) (v := .int (nI (6 - 1))) (ty := .int) (C := RX8) (T := TX8) (N := 13) hx hb hts inX8_saveState_8 tyX8 tyX8_ok nmX8 hown hK hP hD hS 0 rfl rfl 2 (by decide) (hts (.fieldLink RX8 37 "WeighingConverterModel" "savedMany" "I") (List.mem_of_getElem? (i := 1) rfl)) (fun _ h9 => h9) rfl (by decide +kernel) rfl rfl (Nat.le_of_ble_eq_true rfl) dX8_saveState_46 (fun H locs hP hD hS => ?_)
          have hP : va_P D vwCl [(m0, .inr (8, [.ref m1, .ref m2, .int (nI (6 - 1)), .ref m3, .int (nI ln), .int th, .ref m4, .int lf, .int kp, .ref m5, .int (nI sp), .ref m6, .int (nI tm)])), (m1, .inl (cI, 43, .inl (zArr z))), (m2, .inl (cI, 258, .inl h))] H := hP
          have hD : va_D A [(m0, .inr (8, [.ref m1, .ref m2, .int (nI (6 - 1)), .ref m3, .int (nI ln), .int th, .ref m4, .int lf, .int kp, .ref m5, .int (nI sp), .ref m6, .int (nI tm)])), (m1, .inl (cI, 43, .inl (zArr z))), (m2, .inl (cI, 258, .inl h))] := hD
          refine lv_aload_n hx hb dX8_saveState_49 rfl (lv_at hl 1 rfl) ?_
          refine va_get (D := D) (ci := 8) (v := .ref m1) (C := RX8) (T := TX8) (N := 13) hx hb hts inX8_saveState_8 hown hK hP 0 rfl rfl 0 (by decide) (hts (.fieldLink RX8 7 "WeighingConverterModel" "z" "[I") (List.mem_of_getElem? (i := 3) rfl)) (fun _ h9 => h9) rfl dX8_saveState_50 ?_
          refine lv_iconst (v := 0) hx hb dX8_saveState_53 (by decide) ?_
          refine lv_aload_n hx hb dX8_saveState_54 rfl (lv_at hl 1 rfl) ?_
          refine va_get (D := D) (ci := 8) (v := .ref m2) (C := RX8) (T := TX8) (N := 13) hx hb hts inX8_saveState_8 hown hK hP 0 rfl rfl 1 (by decide) (hts (.fieldLink RX8 13 "WeighingConverterModel" "saved" "[I") (List.mem_of_getElem? (i := 2) rfl)) (fun _ h9 => h9) rfl dX8_saveState_55 ?_
          refine lv_bipush (v := 43) hx hb dX8_saveState_58 (by decide) ?_
          refine lv_aload_n hx hb dX8_saveState_60 rfl (lv_at hl 1 rfl) ?_
          refine va_get (D := D) (ci := 8) (v := .int (nI (6 - 1))) (C := RX8) (T := TX8) (N := 13) hx hb hts inX8_saveState_8 hown hK hP 0 rfl rfl 2 (by decide) (hts (.fieldLink RX8 37 "WeighingConverterModel" "savedMany" "I") (List.mem_of_getElem? (i := 1) rfl)) (fun _ h9 => h9) rfl dX8_saveState_61 ?_
          refine lv_imul hx hb dX8_saveState_64 ?_
          refine k_topi (y := nI (43 * (6 - 1))) (pk_mul 43 (6 - 1)) ?_
          refine ks_v (As := [.ref m1, .int 0, .ref m2, .int (nI (43 * (6 - 1)))]) (rest := []) (wr := [(m0, .inr (8, [.ref m1, .ref m2, .int (nI (6 - 1)), .ref m3, .int (nI ln), .int th, .ref m4, .int lf, .int kp, .ref m5, .int (nI sp), .ref m6, .int (nI tm)]))]) ⟨hx, hb, hml, hown, hts⟩ (kX8_copyState l D H.size cI cC cJ cZ cQ m1 m2 0 (43 * (6 - 1)) 43 258 (zArr z) h (by first | assumption | omega) (by first | assumption | omega) (by first | assumption | omega) (by first | assumption | omega)) (va_cwS 4 hts gX8_saveState_X8_copyState rfl rfl rfl (by decide +kernel) ⟨Nat.le_of_ble_eq_true rfl, Nat.le_of_ble_eq_true rfl⟩) hP hD hK hS hA hN [1, 2] [0] rfl rfl (by decide) (by decide) (by decide) rfl hl.1 rfl (Nat.le_of_ble_eq_true rfl) dX8_saveState_65 ⟨Nat.zero_le _, Nat.zero_le _⟩ (fun H locs hP hD hS => ?_)
          have hP : va_P D vwCl [(m0, .inr (8, [.ref m1, .ref m2, .int (nI (6 - 1)), .ref m3, .int (nI ln), .int th, .ref m4, .int lf, .int kp, .ref m5, .int (nI sp), .ref m6, .int (nI tm)])), (m1, .inl (cI, 43, .inl (zArr z))), (m2, .inl (cI, 258, .inl (cpS (zArr z) h 0 (43 * (6 - 1)))))] H := hP
          have hD : va_D A [(m0, .inr (8, [.ref m1, .ref m2, .int (nI (6 - 1)), .ref m3, .int (nI ln), .int th, .ref m4, .int lf, .int kp, .ref m5, .int (nI sp), .ref m6, .int (nI tm)])), (m1, .inl (cI, 43, .inl (zArr z))), (m2, .inl (cI, 258, .inl (cpS (zArr z) h 0 (43 * (6 - 1)))))] := hD
          refine lv_aload_n hx hb dX8_saveState_68 rfl (lv_at hl 1 rfl) ?_
          refine lv_dup hx hb dX8_saveState_69 rfl ?_
          refine va_get (D := D) (ci := 8) (v := .int (nI (6 - 1))) (C := RX8) (T := TX8) (N := 13) hx hb hts inX8_saveState_8 hown hK hP 0 rfl rfl 2 (by decide) (hts (.fieldLink RX8 37 "WeighingConverterModel" "savedMany" "I") (List.mem_of_getElem? (i := 1) rfl)) (fun _ h9 => h9) rfl dX8_saveState_70 ?_
          refine lv_iconst (v := 1) hx hb dX8_saveState_73 (by decide) ?_
          refine lv_iadd hx hb dX8_saveState_74 ?_
          refine k_topi (y := nI ((6 - 1) + 1)) (nI_add (6 - 1) 1) ?_
          refine va_put (D := D) (ci := 8) (v := .int (nI ((6 - 1) + 1))) (ty := .int) (C := RX8) (T := TX8) (N := 13) hx hb hts inX8_saveState_8 tyX8 tyX8_ok nmX8 hown hK hP hD hS 0 rfl rfl 2 (by decide) (hts (.fieldLink RX8 37 "WeighingConverterModel" "savedMany" "I") (List.mem_of_getElem? (i := 1) rfl)) (fun _ h9 => h9) rfl (by decide +kernel) rfl rfl (Nat.le_of_ble_eq_true rfl) dX8_saveState_75 (fun H locs hP hD hS => ?_)
          have hP : va_P D vwCl [(m0, .inr (8, [.ref m1, .ref m2, .int (nI ((6 - 1) + 1)), .ref m3, .int (nI ln), .int th, .ref m4, .int lf, .int kp, .ref m5, .int (nI sp), .ref m6, .int (nI tm)])), (m1, .inl (cI, 43, .inl (zArr z))), (m2, .inl (cI, 258, .inl (cpS (zArr z) h 0 (43 * (6 - 1)))))] H := hP
          have hD : va_D A [(m0, .inr (8, [.ref m1, .ref m2, .int (nI ((6 - 1) + 1)), .ref m3, .int (nI ln), .int th, .ref m4, .int lf, .int kp, .ref m5, .int (nI sp), .ref m6, .int (nI tm)])), (m1, .inl (cI, 43, .inl (zArr z))), (m2, .inl (cI, 258, .inl (cpS (zArr z) h 0 (43 * (6 - 1)))))] := hD
          have hP := k_arr hP 2 rfl (g := sArr (svS T 6 z)) (svS_a (by omega) hg)
          have hD := hD.set (p := 2) (e := .inl (cI, 258, .inl (sArr (svS T 6 z)))) rfl
          have hP : va_P D vwCl [(m0, .inr (8, [.ref m1, .ref m2, .int (nI ((6 - 1) + 1)), .ref m3, .int (nI ln), .int th, .ref m4, .int lf, .int kp, .ref m5, .int (nI sp), .ref m6, .int (nI tm)])), (m1, .inl (cI, 43, .inl (zArr z))), (m2, .inl (cI, 258, .inl (sArr (svS T 6 z))))] H := hP
          have hD : va_D A [(m0, .inr (8, [.ref m1, .ref m2, .int (nI ((6 - 1) + 1)), .ref m3, .int (nI ln), .int th, .ref m4, .int lf, .int kp, .ref m5, .int (nI sp), .ref m6, .int (nI tm)])), (m1, .inl (cI, 43, .inl (zArr z))), (m2, .inl (cI, 258, .inl (sArr (svS T 6 z))))] := hD
          have hP9 := hP.sub (ws' := [(m0, .inr (8, [.ref m1, .ref m2, .int (nI (min (6 + 1) 6)), .ref m3, .int (nI ln), .int th, .ref m4, .int lf, .int kp, .ref m5, .int (nI sp), .ref m6, .int (nI tm)])), (m1, .inl (cI, 43, .inl (zArr z))), (m2, .inl (cI, 258, .inl (sArr (svS T 6 z))))]) [0, 1, 2] rfl
          have hD9 := hD.sub (ws' := [(m0, .inr (8, [.ref m1, .ref m2, .int (nI (min (6 + 1) 6)), .ref m3, .int (nI ln), .int th, .ref m4, .int lf, .int kp, .ref m5, .int (nI sp), .ref m6, .int (nI tm)])), (m1, .inl (cI, 43, .inl (zArr z))), (m2, .inl (cI, 258, .inl (sArr (svS T 6 z))))]) [0, 1, 2] (by decide) rfl
          exact kr_v hx hb hr hlocks hP9 hD9 hS dX8_saveState_78
        · have c_15 : ¬ 215 ≤ k := fun h => c_15 ((nI_leI (a := 215) (b := k) (by omega) (by omega)).mpr h)
          refine lv_aload_n hx hb dX8_saveState_18 rfl (lv_at hl 1 rfl) ?_
          refine va_get (D := D) (ci := 8) (v := .ref m2) (C := RX8) (T := TX8) (N := 13) hx hb hts inX8_saveState_8 hown hK hP 0 rfl rfl 1 (by decide) (hts (.fieldLink RX8 13 "WeighingConverterModel" "saved" "[I") (List.mem_of_getElem? (i := 2) rfl)) (fun _ h9 => h9) rfl dX8_saveState_19 ?_
          refine lv_iload_n hx hb dX8_saveState_22 rfl (lv_at hl 0 rfl) ?_
          refine lv_aload_n hx hb dX8_saveState_23 rfl (lv_at hl 1 rfl) ?_
          refine va_get (D := D) (ci := 8) (v := .ref m2) (C := RX8) (T := TX8) (N := 13) hx hb hts inX8_saveState_8 hown hK hP 0 rfl rfl 1 (by decide) (hts (.fieldLink RX8 13 "WeighingConverterModel" "saved" "[I") (List.mem_of_getElem? (i := 2) rfl)) (fun _ h9 => h9) rfl dX8_saveState_24 ?_
          refine lv_iload_n hx hb dX8_saveState_27 rfl (lv_at hl 0 rfl) ?_
          refine lv_bipush (v := 43) hx hb dX8_saveState_28 (by decide) ?_
          refine lv_iadd hx hb dX8_saveState_30 ?_
          refine k_topi (y := nI (k + 43)) (nI_add k 43) ?_
          refine k_iald (k := k + 43) hx hb hK hP 2 0 rfl rfl (by omega) (by decide) dX8_saveState_31 ?_
          refine k_iast (k := k) hx hb hK hP hD hS 2 0 rfl rfl (by omega) (by decide) dX8_saveState_32 (fun H locs hP hD hS => ?_)
          have hP : va_P D vwCl [(m0, .inr (8, [.ref m1, .ref m2, .int (nI 6), .ref m3, .int (nI ln), .int th, .ref m4, .int lf, .int kp, .ref m5, .int (nI sp), .ref m6, .int (nI tm)])), (m1, .inl (cI, 43, .inl (zArr z))), (m2, .inl (cI, 258, .inl (upd h k (h (k + 43)))))] H := hP
          have hD : va_D A [(m0, .inr (8, [.ref m1, .ref m2, .int (nI 6), .ref m3, .int (nI ln), .int th, .ref m4, .int lf, .int kp, .ref m5, .int (nI sp), .ref m6, .int (nI tm)])), (m1, .inl (cI, 43, .inl (zArr z))), (m2, .inl (cI, 258, .inl (upd h k (h (k + 43)))))] := hD
          refine lv_iinc (v := nI (k + 1)) (lv' := [(1, .int (nI (k + 1))), (0, .ref m0)]) hx hb dX8_saveState_33 hl (k := 0) rfl (by exact k_inc k) (by decide) rfl (fun ls hl => ?_)
          refine lv_goto (tgt := 11) hx hb dX8_saveState_36 (by decide) ?_
          exact ih11 (k + 1) (upd h k (h (k + 43))) (by first | assumption | omega) (fun j => by simp only [upd, hg]; (repeat' split) <;> first | rfl | omega | exact congrArg _ (by omega) | (congr 1; omega)) (by omega) _ _ (hP.sub [0, 1, 2] rfl) (hD.sub [0, 1, 2] (by decide) rfl) hS _ (lv_sub hl [0, 1] rfl)
    exact J11 (215 - 0 + 1) 0 (sArr T) (by first | assumption | omega) (fun j => by rw [if_neg (by omega)]) (Nat.lt_succ_self _) _ _ (hP.sub [0, 1, 2] rfl) (hD.sub [0, 1, 2] (by decide) rfl) hS _ (lv_sub hl [0, 1] rfl)

theorem inX8_savedStates_8 : ∀ w ∈ wsX80, w ∈ wsX8_savedStates := fun _ h => List.mem_cons_of_mem _ (List.mem_append_right _ h)
abbrev rmkX8_savedStates : Room := { frames := 0, cells := 0, slots := 0, locals := 0 }
set_option maxHeartbeats 4000000 in
set_option maxRecDepth 100000 in
theorem kX8_savedStates (l : Launch) (D : va_G) (sz : Nat) (cI : ClassId) (cC : ClassId) (cJ : ClassId) (cZ : ClassId) (cQ : ClassId) (m0 : Nat) (m1 : Nat) (m2 : Nat) (m3 : Nat) (m4 : Nat) (m5 : Nat) (m6 : Nat) (sm : Nat) (ln : Nat) (sp : Nat) (tm : Nat) (th : Int32) (lf : Int32) (kp : Int32) : Met l yX8_savedStates wsX8_savedStates rmkX8_savedStates (va_Pc [.ref m0] (kPre D sz [(m0, .inr (8, [.ref m1, .ref m2, .int (nI sm), .ref m3, .int (nI ln), .int th, .ref m4, .int lf, .int kp, .ref m5, .int (nI sp), .ref m6, .int (nI tm)]))] (kT cI cC cJ cZ cQ))) (kQi D (nI sm) [(m0, .inr (8, [.ref m1, .ref m2, .int (nI sm), .ref m3, .int (nI ln), .int 0, .ref m4, .int lf, .int kp, .ref m5, .int (nI sp), .ref m6, .int (nI tm)]))] (va_A [(m0, .inr (8, [.ref m1, .ref m2, .int (nI sm), .ref m3, .int (nI ln), .int th, .ref m4, .int lf, .int kp, .ref m5, .int (nI sp), .ref m6, .int (nI tm)]))] sz)) 0 0 (va_A [(m0, .inr (8, [.ref m1, .ref m2, .int (nI sm), .ref m3, .int (nI ln), .int th, .ref m4, .int lf, .int kp, .ref m5, .int (nI sp), .ref m6, .int (nI tm)]))] sz) := by
  refine k_met (Qf := kQi D (nI sm) [(m0, .inr (8, [.ref m1, .ref m2, .int (nI sm), .ref m3, .int (nI ln), .int 0, .ref m4, .int lf, .int kp, .ref m5, .int (nI sp), .ref m6, .int (nI tm)]))]) (cc := cX8_savedStates) (maxL := 1) (ret := (some .int)) (own := RX8) (by decide) rfl (Nat.le_of_ble_eq_true rfl) rfl ?_
  intro p e s m args below meth c ls A H locs hx hb hr hts hown hlocks hml hin hsz hP hK hD hA hS hN hl
  have hl : lv_has ls 1 [(0, .ref m0)] := hl
  refine lv_aload_n hx hb dX8_savedStates_0 rfl (lv_at hl 0 rfl) ?_
  refine lv_iconst (v := 0) hx hb dX8_savedStates_1 (by decide) ?_
  refine va_put (D := D) (ci := 8) (v := .int 0) (ty := .int) (C := RX8) (T := TX8) (N := 13) hx hb hts inX8_savedStates_8 tyX8 tyX8_ok nmX8 hown hK hP hD hS 0 rfl rfl 5 (by decide) (hts (.fieldLink RX8 29 "WeighingConverterModel" "thrown" "I") (List.mem_of_getElem? (i := 1) rfl)) (fun _ h9 => h9) rfl (by decide +kernel) rfl rfl (Nat.le_of_ble_eq_true rfl) dX8_savedStates_2 (fun H locs hP hD hS => ?_)
  have hP : va_P D vwCl [(m0, .inr (8, [.ref m1, .ref m2, .int (nI sm), .ref m3, .int (nI ln), .int 0, .ref m4, .int lf, .int kp, .ref m5, .int (nI sp), .ref m6, .int (nI tm)]))] H := hP
  have hD : va_D A [(m0, .inr (8, [.ref m1, .ref m2, .int (nI sm), .ref m3, .int (nI ln), .int 0, .ref m4, .int lf, .int kp, .ref m5, .int (nI sp), .ref m6, .int (nI tm)]))] := hD
  refine lv_aload_n hx hb dX8_savedStates_5 rfl (lv_at hl 0 rfl) ?_
  refine va_get (D := D) (ci := 8) (v := .int (nI sm)) (C := RX8) (T := TX8) (N := 13) hx hb hts inX8_savedStates_8 hown hK hP 0 rfl rfl 2 (by decide) (hts (.fieldLink RX8 37 "WeighingConverterModel" "savedMany" "I") (List.mem_of_getElem? (i := 2) rfl)) (fun _ h9 => h9) rfl dX8_savedStates_6 ?_
  have hP9 := hP.sub (ws' := [(m0, .inr (8, [.ref m1, .ref m2, .int (nI sm), .ref m3, .int (nI ln), .int 0, .ref m4, .int lf, .int kp, .ref m5, .int (nI sp), .ref m6, .int (nI tm)]))]) [0] rfl
  have hD9 := hD.sub (ws' := [(m0, .inr (8, [.ref m1, .ref m2, .int (nI sm), .ref m3, .int (nI ln), .int 0, .ref m4, .int lf, .int kp, .ref m5, .int (nI sp), .ref m6, .int (nI tm)]))]) [0] (by decide) rfl
  exact kr_i (v := nI sm) hx hb hr hlocks hP9 hD9 hS rfl dX8_savedStates_9

theorem inX8_sampled_8 : ∀ w ∈ wsX80, w ∈ wsX8_sampled := fun _ h => List.mem_cons_of_mem _ (List.mem_append_right _ h)
abbrev rmkX8_sampled : Room := { frames := 0, cells := 0, slots := 0, locals := 0 }
set_option maxHeartbeats 4000000 in
set_option maxRecDepth 100000 in
theorem kX8_sampled (l : Launch) (D : va_G) (sz : Nat) (cI : ClassId) (cC : ClassId) (cJ : ClassId) (cZ : ClassId) (cQ : ClassId) (m0 : Nat) (m1 : Nat) (m2 : Nat) (m3 : Nat) (m4 : Nat) (m5 : Nat) (m6 : Nat) (sm : Nat) (ln : Nat) (sp : Nat) (tm : Nat) (th : Int32) (lf : Int32) (kp : Int32) (z : StV) (v : Int32) (inp : Int32) : Met l yX8_sampled wsX8_sampled rmkX8_sampled (va_Pc [.ref m0, .int v, .int inp] (kPre D sz [(m0, .inr (8, [.ref m1, .ref m2, .int (nI sm), .ref m3, .int (nI ln), .int th, .ref m4, .int lf, .int kp, .ref m5, .int (nI sp), .ref m6, .int (nI tm)])), (m1, .inl (cI, 43, .inl (zArr z)))] (kT cI cC cJ cZ cQ))) (kQi D (sTick v inp z.2.1) [(m0, .inr (8, [.ref m1, .ref m2, .int (nI sm), .ref m3, .int (nI ln), .int th, .ref m4, .int lf, .int kp, .ref m5, .int (nI sp), .ref m6, .int (nI tm)])), (m1, .inl (cI, 43, .inl (zArr z)))] (va_A [(m0, .inr (8, [.ref m1, .ref m2, .int (nI sm), .ref m3, .int (nI ln), .int th, .ref m4, .int lf, .int kp, .ref m5, .int (nI sp), .ref m6, .int (nI tm)])), (m1, .inl (cI, 43, .inl (zArr z)))] sz)) 0 0 (va_A [(m0, .inr (8, [.ref m1, .ref m2, .int (nI sm), .ref m3, .int (nI ln), .int th, .ref m4, .int lf, .int kp, .ref m5, .int (nI sp), .ref m6, .int (nI tm)])), (m1, .inl (cI, 43, .inl (zArr z)))] sz) := by
  refine k_met (Qf := kQi D (sTick v inp z.2.1) [(m0, .inr (8, [.ref m1, .ref m2, .int (nI sm), .ref m3, .int (nI ln), .int th, .ref m4, .int lf, .int kp, .ref m5, .int (nI sp), .ref m6, .int (nI tm)])), (m1, .inl (cI, 43, .inl (zArr z)))]) (cc := cX8_sampled) (maxL := 4) (ret := (some .int)) (own := RX8) (by decide) rfl (Nat.le_of_ble_eq_true rfl) rfl ?_
  intro p e s m args below meth c ls A H locs hx hb hr hts hown hlocks hml hin hsz hP hK hD hA hS hN hl
  have hl : lv_has ls 4 [(0, .ref m0), (1, .int v), (2, .int inp)] := hl
  refine lv_iload_n hx hb dX8_sampled_0 rfl (lv_at hl 2 rfl) ?_
  refine lv_iload_n hx hb dX8_sampled_1 rfl (lv_at hl 1 rfl) ?_
  refine lv_isub hx hb dX8_sampled_2 ?_
  refine lv_aload_n hx hb dX8_sampled_3 rfl (lv_at hl 0 rfl) ?_
  refine va_get (D := D) (ci := 8) (v := .ref m1) (C := RX8) (T := TX8) (N := 13) hx hb hts inX8_sampled_8 hown hK hP 0 rfl rfl 0 (by decide) (hts (.fieldLink RX8 7 "WeighingConverterModel" "z" "[I") (List.mem_of_getElem? (i := 1) rfl)) (fun _ h9 => h9) rfl dX8_sampled_4 ?_
  refine lv_iconst (v := 1) hx hb dX8_sampled_7 (by decide) ?_
  refine k_iald (k := 1) hx hb hK hP 1 0 rfl rfl (by omega) (by decide) dX8_sampled_8 ?_
  refine k_topi (y := z.2.1) rfl ?_
  refine lv_imul hx hb dX8_sampled_9 ?_
  refine lv_bipush (v := 16) hx hb dX8_sampled_10 (by decide) ?_
  refine lv_idiv hx hb dX8_sampled_12 (by decide) ?_
  refine lv_istore_n (lv' := [(3, .int (((inp - v) * z.2.1) / 16)), (0, .ref m0), (1, .int v), (2, .int inp)]) hx hb dX8_sampled_13 rfl hl (by decide) rfl (fun ls hl => ?_)
  refine lv_iload_n hx hb dX8_sampled_14 rfl (lv_at hl 0 rfl) ?_
  refine lv_if_eq (tgt := 24) hx hb dX8_sampled_15 (by decide) (fun c_15 => ?_) (fun c_15 => ?_)
  · refine lv_iload_n hx hb dX8_sampled_24 rfl (lv_at hl 3 rfl) ?_
    refine lv_iload_n hx hb dX8_sampled_25 rfl (lv_at hl 2 rfl) ?_
    refine lv_icmp_le (tgt := 35) hx hb dX8_sampled_26 (by decide) (fun c_26 => ?_) (fun c_26 => ?_)
    · refine lv_iload_n hx hb dX8_sampled_35 rfl (lv_at hl 3 rfl) ?_
      refine lv_iload_n hx hb dX8_sampled_36 rfl (lv_at hl 2 rfl) ?_
      refine lv_icmp_ge (tgt := 46) hx hb dX8_sampled_37 (by decide) (fun c_37 => ?_) (fun c_37 => ?_)
      · refine lv_iload_n hx hb dX8_sampled_46 rfl (lv_at hl 2 rfl) ?_
        have hP9 := hP.sub (ws' := [(m0, .inr (8, [.ref m1, .ref m2, .int (nI sm), .ref m3, .int (nI ln), .int th, .ref m4, .int lf, .int kp, .ref m5, .int (nI sp), .ref m6, .int (nI tm)])), (m1, .inl (cI, 43, .inl (zArr z)))]) [0, 1] rfl
        have hD9 := hD.sub (ws' := [(m0, .inr (8, [.ref m1, .ref m2, .int (nI sm), .ref m3, .int (nI ln), .int th, .ref m4, .int lf, .int kp, .ref m5, .int (nI sp), .ref m6, .int (nI tm)])), (m1, .inl (cI, 43, .inl (zArr z)))]) [0, 1] (by decide) rfl
        exact kr_i (v := v) hx hb hr hlocks hP9 hD9 hS (by first | exact (sTm4 c_15 c_26 c_37 : _) | exact (sTm3 c_15 c_26 c_37 : _) | exact (sTm2 c_15 c_26 : _) | exact (sTick1 c_15 : _)) dX8_sampled_47
      · refine lv_iload_n hx hb dX8_sampled_40 rfl (lv_at hl 2 rfl) ?_
        refine lv_iconst (v := 1) hx hb dX8_sampled_41 (by decide) ?_
        refine lv_isub hx hb dX8_sampled_42 ?_
        refine lv_goto (tgt := 47) hx hb dX8_sampled_43 (by decide) ?_
        have hP9 := hP.sub (ws' := [(m0, .inr (8, [.ref m1, .ref m2, .int (nI sm), .ref m3, .int (nI ln), .int th, .ref m4, .int lf, .int kp, .ref m5, .int (nI sp), .ref m6, .int (nI tm)])), (m1, .inl (cI, 43, .inl (zArr z)))]) [0, 1] rfl
        have hD9 := hD.sub (ws' := [(m0, .inr (8, [.ref m1, .ref m2, .int (nI sm), .ref m3, .int (nI ln), .int th, .ref m4, .int lf, .int kp, .ref m5, .int (nI sp), .ref m6, .int (nI tm)])), (m1, .inl (cI, 43, .inl (zArr z)))]) [0, 1] (by decide) rfl
        exact kr_i (v := v - 1) hx hb hr hlocks hP9 hD9 hS (by first | exact (sTm4 c_15 c_26 c_37 : _) | exact (sTm3 c_15 c_26 c_37 : _) | exact (sTm2 c_15 c_26 : _) | exact (sTick1 c_15 : _)) dX8_sampled_47
    · refine lv_iload_n hx hb dX8_sampled_29 rfl (lv_at hl 2 rfl) ?_
      refine lv_iconst (v := 1) hx hb dX8_sampled_30 (by decide) ?_
      refine lv_iadd hx hb dX8_sampled_31 ?_
      refine lv_goto (tgt := 47) hx hb dX8_sampled_32 (by decide) ?_
      have hP9 := hP.sub (ws' := [(m0, .inr (8, [.ref m1, .ref m2, .int (nI sm), .ref m3, .int (nI ln), .int th, .ref m4, .int lf, .int kp, .ref m5, .int (nI sp), .ref m6, .int (nI tm)])), (m1, .inl (cI, 43, .inl (zArr z)))]) [0, 1] rfl
      have hD9 := hD.sub (ws' := [(m0, .inr (8, [.ref m1, .ref m2, .int (nI sm), .ref m3, .int (nI ln), .int th, .ref m4, .int lf, .int kp, .ref m5, .int (nI sp), .ref m6, .int (nI tm)])), (m1, .inl (cI, 43, .inl (zArr z)))]) [0, 1] (by decide) rfl
      exact kr_i (v := v + 1) hx hb hr hlocks hP9 hD9 hS (by first | exact (sTm4 c_15 c_26 c_37 : _) | exact (sTm3 c_15 c_26 c_37 : _) | exact (sTm2 c_15 c_26 : _) | exact (sTick1 c_15 : _)) dX8_sampled_47
  · refine lv_iload_n hx hb dX8_sampled_18 rfl (lv_at hl 2 rfl) ?_
    refine lv_iload_n hx hb dX8_sampled_19 rfl (lv_at hl 0 rfl) ?_
    refine lv_iadd hx hb dX8_sampled_20 ?_
    refine lv_goto (tgt := 47) hx hb dX8_sampled_21 (by decide) ?_
    have hP9 := hP.sub (ws' := [(m0, .inr (8, [.ref m1, .ref m2, .int (nI sm), .ref m3, .int (nI ln), .int th, .ref m4, .int lf, .int kp, .ref m5, .int (nI sp), .ref m6, .int (nI tm)])), (m1, .inl (cI, 43, .inl (zArr z)))]) [0, 1] rfl
    have hD9 := hD.sub (ws' := [(m0, .inr (8, [.ref m1, .ref m2, .int (nI sm), .ref m3, .int (nI ln), .int th, .ref m4, .int lf, .int kp, .ref m5, .int (nI sp), .ref m6, .int (nI tm)])), (m1, .inl (cI, 43, .inl (zArr z)))]) [0, 1] (by decide) rfl
    exact kr_i (v := v + (((inp - v) * z.2.1) / 16)) hx hb hr hlocks hP9 hD9 hS (by first | exact (sTm4 c_15 c_26 c_37 : _) | exact (sTm3 c_15 c_26 c_37 : _) | exact (sTm2 c_15 c_26 : _) | exact (sTick1 c_15 : _)) dX8_sampled_47

theorem inX8_voltage_8 : ∀ w ∈ wsX80, w ∈ wsX8_voltage := fun _ h => List.mem_cons_of_mem _ (List.mem_append_right _ h)
abbrev rmkX8_voltage : Room := { frames := 0, cells := 0, slots := 0, locals := 0 }
set_option maxHeartbeats 4000000 in
set_option maxRecDepth 100000 in
theorem kX8_voltage (l : Launch) (D : va_G) (sz : Nat) (cI : ClassId) (cC : ClassId) (cJ : ClassId) (cZ : ClassId) (cQ : ClassId) (m0 : Nat) (m1 : Nat) (m2 : Nat) (m3 : Nat) (m4 : Nat) (m5 : Nat) (m6 : Nat) (sm : Nat) (ln : Nat) (sp : Nat) (tm : Nat) (th : Int32) (lf : Int32) (kp : Int32) (z : StV) : Met l yX8_voltage wsX8_voltage rmkX8_voltage (va_Pc [.ref m0] (kPre D sz [(m0, .inr (8, [.ref m1, .ref m2, .int (nI sm), .ref m3, .int (nI ln), .int th, .ref m4, .int lf, .int kp, .ref m5, .int (nI sp), .ref m6, .int (nI tm)])), (m1, .inl (cI, 43, .inl (zArr z)))] (kT cI cC cJ cZ cQ))) (kQi D z.1 [(m0, .inr (8, [.ref m1, .ref m2, .int (nI sm), .ref m3, .int (nI ln), .int 0, .ref m4, .int lf, .int kp, .ref m5, .int (nI sp), .ref m6, .int (nI tm)])), (m1, .inl (cI, 43, .inl (zArr z)))] (va_A [(m0, .inr (8, [.ref m1, .ref m2, .int (nI sm), .ref m3, .int (nI ln), .int th, .ref m4, .int lf, .int kp, .ref m5, .int (nI sp), .ref m6, .int (nI tm)])), (m1, .inl (cI, 43, .inl (zArr z)))] sz)) 0 0 (va_A [(m0, .inr (8, [.ref m1, .ref m2, .int (nI sm), .ref m3, .int (nI ln), .int th, .ref m4, .int lf, .int kp, .ref m5, .int (nI sp), .ref m6, .int (nI tm)])), (m1, .inl (cI, 43, .inl (zArr z)))] sz) := by
  refine k_met (Qf := kQi D z.1 [(m0, .inr (8, [.ref m1, .ref m2, .int (nI sm), .ref m3, .int (nI ln), .int 0, .ref m4, .int lf, .int kp, .ref m5, .int (nI sp), .ref m6, .int (nI tm)])), (m1, .inl (cI, 43, .inl (zArr z)))]) (cc := cX8_voltage) (maxL := 1) (ret := (some .int)) (own := RX8) (by decide) rfl (Nat.le_of_ble_eq_true rfl) rfl ?_
  intro p e s m args below meth c ls A H locs hx hb hr hts hown hlocks hml hin hsz hP hK hD hA hS hN hl
  have hl : lv_has ls 1 [(0, .ref m0)] := hl
  refine lv_aload_n hx hb dX8_voltage_0 rfl (lv_at hl 0 rfl) ?_
  refine lv_iconst (v := 0) hx hb dX8_voltage_1 (by decide) ?_
  refine va_put (D := D) (ci := 8) (v := .int 0) (ty := .int) (C := RX8) (T := TX8) (N := 13) hx hb hts inX8_voltage_8 tyX8 tyX8_ok nmX8 hown hK hP hD hS 0 rfl rfl 5 (by decide) (hts (.fieldLink RX8 29 "WeighingConverterModel" "thrown" "I") (List.mem_of_getElem? (i := 1) rfl)) (fun _ h9 => h9) rfl (by decide +kernel) rfl rfl (Nat.le_of_ble_eq_true rfl) dX8_voltage_2 (fun H locs hP hD hS => ?_)
  have hP : va_P D vwCl [(m0, .inr (8, [.ref m1, .ref m2, .int (nI sm), .ref m3, .int (nI ln), .int 0, .ref m4, .int lf, .int kp, .ref m5, .int (nI sp), .ref m6, .int (nI tm)])), (m1, .inl (cI, 43, .inl (zArr z)))] H := hP
  have hD : va_D A [(m0, .inr (8, [.ref m1, .ref m2, .int (nI sm), .ref m3, .int (nI ln), .int 0, .ref m4, .int lf, .int kp, .ref m5, .int (nI sp), .ref m6, .int (nI tm)])), (m1, .inl (cI, 43, .inl (zArr z)))] := hD
  refine lv_aload_n hx hb dX8_voltage_5 rfl (lv_at hl 0 rfl) ?_
  refine va_get (D := D) (ci := 8) (v := .ref m1) (C := RX8) (T := TX8) (N := 13) hx hb hts inX8_voltage_8 hown hK hP 0 rfl rfl 0 (by decide) (hts (.fieldLink RX8 7 "WeighingConverterModel" "z" "[I") (List.mem_of_getElem? (i := 2) rfl)) (fun _ h9 => h9) rfl dX8_voltage_6 ?_
  refine lv_iconst (v := 0) hx hb dX8_voltage_9 (by decide) ?_
  refine k_iald (k := 0) hx hb hK hP 1 0 rfl rfl (by omega) (by decide) dX8_voltage_10 ?_
  refine k_topi (y := z.1) rfl ?_
  have hP9 := hP.sub (ws' := [(m0, .inr (8, [.ref m1, .ref m2, .int (nI sm), .ref m3, .int (nI ln), .int 0, .ref m4, .int lf, .int kp, .ref m5, .int (nI sp), .ref m6, .int (nI tm)])), (m1, .inl (cI, 43, .inl (zArr z)))]) [0, 1] rfl
  have hD9 := hD.sub (ws' := [(m0, .inr (8, [.ref m1, .ref m2, .int (nI sm), .ref m3, .int (nI ln), .int 0, .ref m4, .int lf, .int kp, .ref m5, .int (nI sp), .ref m6, .int (nI tm)])), (m1, .inl (cI, 43, .inl (zArr z)))]) [0, 1] (by decide) rfl
  exact kr_i (v := z.1) hx hb hr hlocks hP9 hD9 hS rfl dX8_voltage_11

theorem inX8_weights_8 : ∀ w ∈ wsX80, w ∈ wsX8_weights := fun _ h => List.mem_cons_of_mem _ (List.mem_append_right _ h)
abbrev rmkX8_weights : Room := { frames := 0, cells := 0, slots := 0, locals := 0 }
set_option maxHeartbeats 4000000 in
set_option maxRecDepth 100000 in
theorem kX8_weights (l : Launch) (D : va_G) (sz : Nat) (cI : ClassId) (cC : ClassId) (cJ : ClassId) (cZ : ClassId) (cQ : ClassId) (m0 : Nat) (m1 : Nat) (m2 : Nat) (m3 : Nat) (m4 : Nat) (m5 : Nat) (m6 : Nat) (sm : Nat) (ln : Nat) (sp : Nat) (tm : Nat) (th : Int32) (lf : Int32) (kp : Int32) (z : StV) : Met l yX8_weights wsX8_weights rmkX8_weights (va_Pc [.ref m0] (kPre D sz [(m0, .inr (8, [.ref m1, .ref m2, .int (nI sm), .ref m3, .int (nI ln), .int th, .ref m4, .int lf, .int kp, .ref m5, .int (nI sp), .ref m6, .int (nI tm)])), (m1, .inl (cI, 43, .inl (zArr z)))] (kT cI cC cJ cZ cQ))) (kQi D (nI z.2.2.2.2.2.1) [(m0, .inr (8, [.ref m1, .ref m2, .int (nI sm), .ref m3, .int (nI ln), .int 0, .ref m4, .int lf, .int kp, .ref m5, .int (nI sp), .ref m6, .int (nI tm)])), (m1, .inl (cI, 43, .inl (zArr z)))] (va_A [(m0, .inr (8, [.ref m1, .ref m2, .int (nI sm), .ref m3, .int (nI ln), .int th, .ref m4, .int lf, .int kp, .ref m5, .int (nI sp), .ref m6, .int (nI tm)])), (m1, .inl (cI, 43, .inl (zArr z)))] sz)) 0 0 (va_A [(m0, .inr (8, [.ref m1, .ref m2, .int (nI sm), .ref m3, .int (nI ln), .int th, .ref m4, .int lf, .int kp, .ref m5, .int (nI sp), .ref m6, .int (nI tm)])), (m1, .inl (cI, 43, .inl (zArr z)))] sz) := by
  refine k_met (Qf := kQi D (nI z.2.2.2.2.2.1) [(m0, .inr (8, [.ref m1, .ref m2, .int (nI sm), .ref m3, .int (nI ln), .int 0, .ref m4, .int lf, .int kp, .ref m5, .int (nI sp), .ref m6, .int (nI tm)])), (m1, .inl (cI, 43, .inl (zArr z)))]) (cc := cX8_weights) (maxL := 1) (ret := (some .int)) (own := RX8) (by decide) rfl (Nat.le_of_ble_eq_true rfl) rfl ?_
  intro p e s m args below meth c ls A H locs hx hb hr hts hown hlocks hml hin hsz hP hK hD hA hS hN hl
  have hl : lv_has ls 1 [(0, .ref m0)] := hl
  refine lv_aload_n hx hb dX8_weights_0 rfl (lv_at hl 0 rfl) ?_
  refine lv_iconst (v := 0) hx hb dX8_weights_1 (by decide) ?_
  refine va_put (D := D) (ci := 8) (v := .int 0) (ty := .int) (C := RX8) (T := TX8) (N := 13) hx hb hts inX8_weights_8 tyX8 tyX8_ok nmX8 hown hK hP hD hS 0 rfl rfl 5 (by decide) (hts (.fieldLink RX8 29 "WeighingConverterModel" "thrown" "I") (List.mem_of_getElem? (i := 1) rfl)) (fun _ h9 => h9) rfl (by decide +kernel) rfl rfl (Nat.le_of_ble_eq_true rfl) dX8_weights_2 (fun H locs hP hD hS => ?_)
  have hP : va_P D vwCl [(m0, .inr (8, [.ref m1, .ref m2, .int (nI sm), .ref m3, .int (nI ln), .int 0, .ref m4, .int lf, .int kp, .ref m5, .int (nI sp), .ref m6, .int (nI tm)])), (m1, .inl (cI, 43, .inl (zArr z)))] H := hP
  have hD : va_D A [(m0, .inr (8, [.ref m1, .ref m2, .int (nI sm), .ref m3, .int (nI ln), .int 0, .ref m4, .int lf, .int kp, .ref m5, .int (nI sp), .ref m6, .int (nI tm)])), (m1, .inl (cI, 43, .inl (zArr z)))] := hD
  refine lv_aload_n hx hb dX8_weights_5 rfl (lv_at hl 0 rfl) ?_
  refine va_get (D := D) (ci := 8) (v := .ref m1) (C := RX8) (T := TX8) (N := 13) hx hb hts inX8_weights_8 hown hK hP 0 rfl rfl 0 (by decide) (hts (.fieldLink RX8 7 "WeighingConverterModel" "z" "[I") (List.mem_of_getElem? (i := 2) rfl)) (fun _ h9 => h9) rfl dX8_weights_6 ?_
  refine lv_iconst (v := 5) hx hb dX8_weights_9 (by decide) ?_
  refine k_iald (k := 5) hx hb hK hP 1 0 rfl rfl (by omega) (by decide) dX8_weights_10 ?_
  refine k_topi (y := nI z.2.2.2.2.2.1) rfl ?_
  have hP9 := hP.sub (ws' := [(m0, .inr (8, [.ref m1, .ref m2, .int (nI sm), .ref m3, .int (nI ln), .int 0, .ref m4, .int lf, .int kp, .ref m5, .int (nI sp), .ref m6, .int (nI tm)])), (m1, .inl (cI, 43, .inl (zArr z)))]) [0, 1] rfl
  have hD9 := hD.sub (ws' := [(m0, .inr (8, [.ref m1, .ref m2, .int (nI sm), .ref m3, .int (nI ln), .int 0, .ref m4, .int lf, .int kp, .ref m5, .int (nI sp), .ref m6, .int (nI tm)])), (m1, .inl (cI, 43, .inl (zArr z)))]) [0, 1] (by decide) rfl
  exact kr_i (v := nI z.2.2.2.2.2.1) hx hb hr hlocks hP9 hD9 hS rfl dX8_weights_11

theorem inX8_logged_8 : ∀ w ∈ wsX80, w ∈ wsX8_logged := fun _ h => List.mem_cons_of_mem _ (List.mem_append_right _ h)
abbrev rmkX8_logged : Room := { frames := 0, cells := 0, slots := 0, locals := 0 }
set_option maxHeartbeats 4000000 in
set_option maxRecDepth 100000 in
theorem kX8_logged (l : Launch) (D : va_G) (sz : Nat) (cI : ClassId) (cC : ClassId) (cJ : ClassId) (cZ : ClassId) (cQ : ClassId) (m0 : Nat) (m1 : Nat) (m2 : Nat) (m3 : Nat) (m4 : Nat) (m5 : Nat) (m6 : Nat) (sm : Nat) (ln : Nat) (sp : Nat) (tm : Nat) (th : Int32) (lf : Int32) (kp : Int32) (z : StV) : Met l yX8_logged wsX8_logged rmkX8_logged (va_Pc [.ref m0] (kPre D sz [(m0, .inr (8, [.ref m1, .ref m2, .int (nI sm), .ref m3, .int (nI ln), .int th, .ref m4, .int lf, .int kp, .ref m5, .int (nI sp), .ref m6, .int (nI tm)])), (m1, .inl (cI, 43, .inl (zArr z)))] (kT cI cC cJ cZ cQ))) (kQi D (nI z.2.2.2.2.2.2.1) [(m0, .inr (8, [.ref m1, .ref m2, .int (nI sm), .ref m3, .int (nI ln), .int 0, .ref m4, .int lf, .int kp, .ref m5, .int (nI sp), .ref m6, .int (nI tm)])), (m1, .inl (cI, 43, .inl (zArr z)))] (va_A [(m0, .inr (8, [.ref m1, .ref m2, .int (nI sm), .ref m3, .int (nI ln), .int th, .ref m4, .int lf, .int kp, .ref m5, .int (nI sp), .ref m6, .int (nI tm)])), (m1, .inl (cI, 43, .inl (zArr z)))] sz)) 0 0 (va_A [(m0, .inr (8, [.ref m1, .ref m2, .int (nI sm), .ref m3, .int (nI ln), .int th, .ref m4, .int lf, .int kp, .ref m5, .int (nI sp), .ref m6, .int (nI tm)])), (m1, .inl (cI, 43, .inl (zArr z)))] sz) := by
  refine k_met (Qf := kQi D (nI z.2.2.2.2.2.2.1) [(m0, .inr (8, [.ref m1, .ref m2, .int (nI sm), .ref m3, .int (nI ln), .int 0, .ref m4, .int lf, .int kp, .ref m5, .int (nI sp), .ref m6, .int (nI tm)])), (m1, .inl (cI, 43, .inl (zArr z)))]) (cc := cX8_logged) (maxL := 1) (ret := (some .int)) (own := RX8) (by decide) rfl (Nat.le_of_ble_eq_true rfl) rfl ?_
  intro p e s m args below meth c ls A H locs hx hb hr hts hown hlocks hml hin hsz hP hK hD hA hS hN hl
  have hl : lv_has ls 1 [(0, .ref m0)] := hl
  refine lv_aload_n hx hb dX8_logged_0 rfl (lv_at hl 0 rfl) ?_
  refine lv_iconst (v := 0) hx hb dX8_logged_1 (by decide) ?_
  refine va_put (D := D) (ci := 8) (v := .int 0) (ty := .int) (C := RX8) (T := TX8) (N := 13) hx hb hts inX8_logged_8 tyX8 tyX8_ok nmX8 hown hK hP hD hS 0 rfl rfl 5 (by decide) (hts (.fieldLink RX8 29 "WeighingConverterModel" "thrown" "I") (List.mem_of_getElem? (i := 1) rfl)) (fun _ h9 => h9) rfl (by decide +kernel) rfl rfl (Nat.le_of_ble_eq_true rfl) dX8_logged_2 (fun H locs hP hD hS => ?_)
  have hP : va_P D vwCl [(m0, .inr (8, [.ref m1, .ref m2, .int (nI sm), .ref m3, .int (nI ln), .int 0, .ref m4, .int lf, .int kp, .ref m5, .int (nI sp), .ref m6, .int (nI tm)])), (m1, .inl (cI, 43, .inl (zArr z)))] H := hP
  have hD : va_D A [(m0, .inr (8, [.ref m1, .ref m2, .int (nI sm), .ref m3, .int (nI ln), .int 0, .ref m4, .int lf, .int kp, .ref m5, .int (nI sp), .ref m6, .int (nI tm)])), (m1, .inl (cI, 43, .inl (zArr z)))] := hD
  refine lv_aload_n hx hb dX8_logged_5 rfl (lv_at hl 0 rfl) ?_
  refine va_get (D := D) (ci := 8) (v := .ref m1) (C := RX8) (T := TX8) (N := 13) hx hb hts inX8_logged_8 hown hK hP 0 rfl rfl 0 (by decide) (hts (.fieldLink RX8 7 "WeighingConverterModel" "z" "[I") (List.mem_of_getElem? (i := 2) rfl)) (fun _ h9 => h9) rfl dX8_logged_6 ?_
  refine lv_bipush (v := 6) hx hb dX8_logged_9 (by decide) ?_
  refine k_iald (k := 6) hx hb hK hP 1 0 rfl rfl (by omega) (by decide) dX8_logged_11 ?_
  refine k_topi (y := nI z.2.2.2.2.2.2.1) rfl ?_
  have hP9 := hP.sub (ws' := [(m0, .inr (8, [.ref m1, .ref m2, .int (nI sm), .ref m3, .int (nI ln), .int 0, .ref m4, .int lf, .int kp, .ref m5, .int (nI sp), .ref m6, .int (nI tm)])), (m1, .inl (cI, 43, .inl (zArr z)))]) [0, 1] rfl
  have hD9 := hD.sub (ws' := [(m0, .inr (8, [.ref m1, .ref m2, .int (nI sm), .ref m3, .int (nI ln), .int 0, .ref m4, .int lf, .int kp, .ref m5, .int (nI sp), .ref m6, .int (nI tm)])), (m1, .inl (cI, 43, .inl (zArr z)))]) [0, 1] (by decide) rfl
  exact kr_i (v := nI z.2.2.2.2.2.2.1) hx hb hr hlocks hP9 hD9 hS rfl dX8_logged_12

theorem inX8_change_8 : ∀ w ∈ wsX80, w ∈ wsX8_change := fun _ h => List.mem_cons_of_mem _ (List.mem_append_right _ h)
abbrev rmkX8_change : Room := { frames := 2, cells := 0, slots := 0, locals := 45 }
set_option maxHeartbeats 4000000 in
set_option maxRecDepth 100000 in
theorem kX8_change (l : Launch) (D : va_G) (sz : Nat) (cI : ClassId) (cC : ClassId) (cJ : ClassId) (cZ : ClassId) (cQ : ClassId) (m0 : Nat) (m1 : Nat) (m2 : Nat) (m3 : Nat) (m4 : Nat) (m5 : Nat) (m6 : Nat) (sm : Nat) (ln : Nat) (sp : Nat) (tm : Nat) (th : Int32) (lf : Int32) (kp : Int32) (z : StV) (T : Nat → StV) (a : Nat) (v : Int32) (hsm : sm ≤ 6) (ha : a < 43) : Met l yX8_change wsX8_change rmkX8_change (va_Pc [.ref m0, .int (nI a), .int v] (kPre D sz [(m0, .inr (8, [.ref m1, .ref m2, .int (nI sm), .ref m3, .int (nI ln), .int th, .ref m4, .int lf, .int kp, .ref m5, .int (nI sp), .ref m6, .int (nI tm)])), (m1, .inl (cI, 43, .inl (zArr z))), (m2, .inl (cI, 258, .inl (sArr T)))] (kT cI cC cJ cZ cQ))) (kQi D (zArr z a) [(m0, .inr (8, [.ref m1, .ref m2, .int (nI (min (sm + 1) 6)), .ref m3, .int (nI ln), .int th, .ref m4, .int lf, .int kp, .ref m5, .int (nI sp), .ref m6, .int (nI tm)])), (m1, .inl (cI, 43, .inl (upd (zArr z) a v))), (m2, .inl (cI, 258, .inl (sArr (svS T sm z))))] (va_A [(m0, .inr (8, [.ref m1, .ref m2, .int (nI sm), .ref m3, .int (nI ln), .int th, .ref m4, .int lf, .int kp, .ref m5, .int (nI sp), .ref m6, .int (nI tm)])), (m1, .inl (cI, 43, .inl (zArr z))), (m2, .inl (cI, 258, .inl (sArr T)))] sz)) 0 0 (va_A [(m0, .inr (8, [.ref m1, .ref m2, .int (nI sm), .ref m3, .int (nI ln), .int th, .ref m4, .int lf, .int kp, .ref m5, .int (nI sp), .ref m6, .int (nI tm)])), (m1, .inl (cI, 43, .inl (zArr z))), (m2, .inl (cI, 258, .inl (sArr T)))] sz) := by
  refine k_met (Qf := kQi D (zArr z a) [(m0, .inr (8, [.ref m1, .ref m2, .int (nI (min (sm + 1) 6)), .ref m3, .int (nI ln), .int th, .ref m4, .int lf, .int kp, .ref m5, .int (nI sp), .ref m6, .int (nI tm)])), (m1, .inl (cI, 43, .inl (upd (zArr z) a v))), (m2, .inl (cI, 258, .inl (sArr (svS T sm z))))]) (cc := cX8_change) (maxL := 4) (ret := (some .int)) (own := RX8) (by decide) rfl (Nat.le_of_ble_eq_true rfl) rfl ?_
  intro p e s m args below meth c ls A H locs hx hb hr hts hown hlocks hml hin hsz hP hK hD hA hS hN hl
  have hl : lv_has ls 4 [(0, .ref m0), (1, .int (nI a)), (2, .int v)] := hl
  refine lv_aload_n hx hb dX8_change_0 rfl (lv_at hl 0 rfl) ?_
  refine kv_v (As := []) (rest := []) (wr := []) ⟨hx, hb, hml, hown, hts⟩ (kX8_saveState l D H.size cI cC cJ cZ cQ m0 m1 m2 m3 m4 m5 m6 sm ln sp tm th lf kp z T (by first | assumption | omega)) (cwV 0 hts gX8_change_X8_saveState rfl rfl rfl (by decide +kernel) ⟨Nat.le_of_ble_eq_true rfl, Nat.le_of_ble_eq_true rfl⟩) hP hD hK hS hA hN [0, 1, 2] [] rfl rfl (by decide) (by decide) (by decide) 0 8 rfl rfl rfl rfl hl.1 rfl (Nat.le_of_ble_eq_true rfl) dX8_change_1 ⟨Nat.zero_le _, Nat.zero_le _⟩ (fun H locs hP hD hS => ?_)
  have hP : va_P D vwCl [(m0, .inr (8, [.ref m1, .ref m2, .int (nI (min (sm + 1) 6)), .ref m3, .int (nI ln), .int th, .ref m4, .int lf, .int kp, .ref m5, .int (nI sp), .ref m6, .int (nI tm)])), (m1, .inl (cI, 43, .inl (zArr z))), (m2, .inl (cI, 258, .inl (sArr (svS T sm z))))] H := hP
  have hD : va_D A [(m0, .inr (8, [.ref m1, .ref m2, .int (nI (min (sm + 1) 6)), .ref m3, .int (nI ln), .int th, .ref m4, .int lf, .int kp, .ref m5, .int (nI sp), .ref m6, .int (nI tm)])), (m1, .inl (cI, 43, .inl (zArr z))), (m2, .inl (cI, 258, .inl (sArr (svS T sm z))))] := hD
  refine lv_aload_n hx hb dX8_change_4 rfl (lv_at hl 0 rfl) ?_
  refine va_get (D := D) (ci := 8) (v := .ref m1) (C := RX8) (T := TX8) (N := 13) hx hb hts inX8_change_8 hown hK hP 0 rfl rfl 0 (by decide) (hts (.fieldLink RX8 7 "WeighingConverterModel" "z" "[I") (List.mem_of_getElem? (i := 1) rfl)) (fun _ h9 => h9) rfl dX8_change_5 ?_
  refine lv_iload_n hx hb dX8_change_8 rfl (lv_at hl 1 rfl) ?_
  refine k_iald (k := a) hx hb hK hP 1 0 rfl rfl (by omega) (by decide) dX8_change_9 ?_
  refine lv_istore_n (lv' := [(3, .int ((zArr z) a)), (0, .ref m0), (1, .int (nI a)), (2, .int v)]) hx hb dX8_change_10 rfl hl (by decide) rfl (fun ls hl => ?_)
  refine lv_aload_n hx hb dX8_change_11 rfl (lv_at hl 1 rfl) ?_
  refine va_get (D := D) (ci := 8) (v := .ref m1) (C := RX8) (T := TX8) (N := 13) hx hb hts inX8_change_8 hown hK hP 0 rfl rfl 0 (by decide) (hts (.fieldLink RX8 7 "WeighingConverterModel" "z" "[I") (List.mem_of_getElem? (i := 1) rfl)) (fun _ h9 => h9) rfl dX8_change_12 ?_
  refine lv_iload_n hx hb dX8_change_15 rfl (lv_at hl 2 rfl) ?_
  refine lv_iload_n hx hb dX8_change_16 rfl (lv_at hl 3 rfl) ?_
  refine k_iast (k := a) hx hb hK hP hD hS 1 0 rfl rfl (by omega) (by decide) dX8_change_17 (fun H locs hP hD hS => ?_)
  have hP : va_P D vwCl [(m0, .inr (8, [.ref m1, .ref m2, .int (nI (min (sm + 1) 6)), .ref m3, .int (nI ln), .int th, .ref m4, .int lf, .int kp, .ref m5, .int (nI sp), .ref m6, .int (nI tm)])), (m1, .inl (cI, 43, .inl (upd (zArr z) a v))), (m2, .inl (cI, 258, .inl (sArr (svS T sm z))))] H := hP
  have hD : va_D A [(m0, .inr (8, [.ref m1, .ref m2, .int (nI (min (sm + 1) 6)), .ref m3, .int (nI ln), .int th, .ref m4, .int lf, .int kp, .ref m5, .int (nI sp), .ref m6, .int (nI tm)])), (m1, .inl (cI, 43, .inl (upd (zArr z) a v))), (m2, .inl (cI, 258, .inl (sArr (svS T sm z))))] := hD
  refine lv_iload_n hx hb dX8_change_18 rfl (lv_at hl 0 rfl) ?_
  have hP9 := hP.sub (ws' := [(m0, .inr (8, [.ref m1, .ref m2, .int (nI (min (sm + 1) 6)), .ref m3, .int (nI ln), .int th, .ref m4, .int lf, .int kp, .ref m5, .int (nI sp), .ref m6, .int (nI tm)])), (m1, .inl (cI, 43, .inl (upd (zArr z) a v))), (m2, .inl (cI, 258, .inl (sArr (svS T sm z))))]) [0, 1, 2] rfl
  have hD9 := hD.sub (ws' := [(m0, .inr (8, [.ref m1, .ref m2, .int (nI (min (sm + 1) 6)), .ref m3, .int (nI ln), .int th, .ref m4, .int lf, .int kp, .ref m5, .int (nI sp), .ref m6, .int (nI tm)])), (m1, .inl (cI, 43, .inl (upd (zArr z) a v))), (m2, .inl (cI, 258, .inl (sArr (svS T sm z))))]) [0, 1, 2] (by decide) rfl
  exact kr_i (v := (zArr z) a) hx hb hr hlocks hP9 hD9 hS rfl dX8_change_19

theorem inX8_sum_8 : ∀ w ∈ wsX80, w ∈ wsX8_sum := fun _ h => List.mem_cons_of_mem _ (List.mem_append_right _ h)
abbrev rmkX8_sum : Room := { frames := 0, cells := 0, slots := 0, locals := 0 }
set_option maxHeartbeats 4000000 in
set_option maxRecDepth 100000 in
theorem kX8_sum (l : Launch) (D : va_G) (sz : Nat) (cI : ClassId) (cC : ClassId) (cJ : ClassId) (cZ : ClassId) (cQ : ClassId) (m0 : Nat) (m1 : Nat) (m2 : Nat) (m3 : Nat) (m4 : Nat) (m5 : Nat) (m6 : Nat) (sm : Nat) (ln : Nat) (sp : Nat) (tm : Nat) (th : Int32) (lf : Int32) (kp : Int32) (z : StV) (hwc : z.2.2.2.2.2.1 ≤ 12) : Met l yX8_sum wsX8_sum rmkX8_sum (va_Pc [.ref m0] (kPre D sz [(m0, .inr (8, [.ref m1, .ref m2, .int (nI sm), .ref m3, .int (nI ln), .int th, .ref m4, .int lf, .int kp, .ref m5, .int (nI sp), .ref m6, .int (nI tm)])), (m1, .inl (cI, 43, .inl (zArr z)))] (kT cI cC cJ cZ cQ))) (kQi D (sumW z.2.2.2.2.2.2.2.1 z.2.2.2.2.2.1) [(m0, .inr (8, [.ref m1, .ref m2, .int (nI sm), .ref m3, .int (nI ln), .int th, .ref m4, .int lf, .int kp, .ref m5, .int (nI sp), .ref m6, .int (nI tm)])), (m1, .inl (cI, 43, .inl (zArr z)))] (va_A [(m0, .inr (8, [.ref m1, .ref m2, .int (nI sm), .ref m3, .int (nI ln), .int th, .ref m4, .int lf, .int kp, .ref m5, .int (nI sp), .ref m6, .int (nI tm)])), (m1, .inl (cI, 43, .inl (zArr z)))] sz)) 0 0 (va_A [(m0, .inr (8, [.ref m1, .ref m2, .int (nI sm), .ref m3, .int (nI ln), .int th, .ref m4, .int lf, .int kp, .ref m5, .int (nI sp), .ref m6, .int (nI tm)])), (m1, .inl (cI, 43, .inl (zArr z)))] sz) := by
  refine k_met (Qf := kQi D (sumW z.2.2.2.2.2.2.2.1 z.2.2.2.2.2.1) [(m0, .inr (8, [.ref m1, .ref m2, .int (nI sm), .ref m3, .int (nI ln), .int th, .ref m4, .int lf, .int kp, .ref m5, .int (nI sp), .ref m6, .int (nI tm)])), (m1, .inl (cI, 43, .inl (zArr z)))]) (cc := cX8_sum) (maxL := 3) (ret := (some .int)) (own := RX8) (by decide) rfl (Nat.le_of_ble_eq_true rfl) rfl ?_
  intro p e s m args below meth c ls A H locs hx hb hr hts hown hlocks hml hin hsz hP hK hD hA hS hN hl
  have hl : lv_has ls 3 [(0, .ref m0)] := hl
  refine lv_iconst (v := 0) hx hb dX8_sum_0 (by decide) ?_
  refine lv_istore_n (lv' := [(1, .int 0), (0, .ref m0)]) hx hb dX8_sum_1 rfl hl (by decide) rfl (fun ls hl => ?_)
  refine lv_iconst (v := 0) hx hb dX8_sum_2 (by decide) ?_
  refine lv_istore_n (lv' := [(2, .int 0), (1, .int 0), (0, .ref m0)]) hx hb dX8_sum_3 rfl hl (by decide) rfl (fun ls hl => ?_)
  have J4 : ∀ (fuel : Nat) (k : Nat) (hk : k ≤ z.2.2.2.2.2.1) (hm : z.2.2.2.2.2.1 - k < fuel) (H : Heap) (locs : List Loc) (hP : va_P D vwCl [(m0, .inr (8, [.ref m1, .ref m2, .int (nI sm), .ref m3, .int (nI ln), .int th, .ref m4, .int lf, .int kp, .ref m5, .int (nI sp), .ref m6, .int (nI tm)])), (m1, .inl (cI, 43, .inl (zArr z)))] H) (hD : va_D A [(m0, .inr (8, [.ref m1, .ref m2, .int (nI sm), .ref m3, .int (nI ln), .int th, .ref m4, .int lf, .int kp, .ref m5, .int (nI sp), .ref m6, .int (nI tm)])), (m1, .inl (cI, 43, .inl (zArr z)))]) (hS : va_S A s.heap H locs) (ls : Array Slot) (hl : lv_has ls 3 [(2, .int (nI k)), (1, .int (sumW z.2.2.2.2.2.2.2.1 k)), (0, .ref m0)]), W p l e rmkX8_sum s m args below meth c H locs 0 0 (MQ below (kQi D (sumW z.2.2.2.2.2.2.2.1 z.2.2.2.2.2.1) [(m0, .inr (8, [.ref m1, .ref m2, .int (nI sm), .ref m3, .int (nI ln), .int th, .ref m4, .int lf, .int kp, .ref m5, .int (nI sp), .ref m6, .int (nI tm)])), (m1, .inl (cI, 43, .inl (zArr z)))] A) args s 0 0 A) (F0 m 4 ls []) := by
    intro fuel
    induction fuel with
    | zero => intro k hk hm; exact absurd hm (Nat.not_lt_zero _)
    | succ fuel ih4 =>
      intro k hk hm H locs hP hD hS ls hl
      refine lv_iload_n hx hb dX8_sum_4 rfl (lv_at hl 0 rfl) ?_
      refine lv_aload_n hx hb dX8_sum_5 rfl (lv_at hl 2 rfl) ?_
      refine va_get (D := D) (ci := 8) (v := .ref m1) (C := RX8) (T := TX8) (N := 13) hx hb hts inX8_sum_8 hown hK hP 0 rfl rfl 0 (by decide) (hts (.fieldLink RX8 7 "WeighingConverterModel" "z" "[I") (List.mem_of_getElem? (i := 1) rfl)) (fun _ h9 => h9) rfl dX8_sum_6 ?_
      refine lv_iconst (v := 5) hx hb dX8_sum_9 (by decide) ?_
      refine k_iald (k := 5) hx hb hK hP 1 0 rfl rfl (by omega) (by decide) dX8_sum_10 ?_
      refine k_topi (y := nI z.2.2.2.2.2.1) rfl ?_
      refine lv_icmp_ge (tgt := 32) hx hb dX8_sum_11 (by decide) (fun c_11 => ?_) (fun c_11 => ?_)
      · have c_11 : z.2.2.2.2.2.1 ≤ k := (nI_leI (a := z.2.2.2.2.2.1) (b := k) (by omega) (by omega)).mp c_11
        refine lv_iload_n hx hb dX8_sum_32 rfl (lv_at hl 1 rfl) ?_
        have hP9 := hP.sub (ws' := [(m0, .inr (8, [.ref m1, .ref m2, .int (nI sm), .ref m3, .int (nI ln), .int th, .ref m4, .int lf, .int kp, .ref m5, .int (nI sp), .ref m6, .int (nI tm)])), (m1, .inl (cI, 43, .inl (zArr z)))]) [0, 1] rfl
        have hD9 := hD.sub (ws' := [(m0, .inr (8, [.ref m1, .ref m2, .int (nI sm), .ref m3, .int (nI ln), .int th, .ref m4, .int lf, .int kp, .ref m5, .int (nI sp), .ref m6, .int (nI tm)])), (m1, .inl (cI, 43, .inl (zArr z)))]) [0, 1] (by decide) rfl
        exact kr_i (v := sumW z.2.2.2.2.2.2.2.1 k) hx hb hr hlocks hP9 hD9 hS (by rw [show k = z.2.2.2.2.2.1 from by omega]) dX8_sum_33
      · have c_11 : ¬ z.2.2.2.2.2.1 ≤ k := fun h => c_11 ((nI_leI (a := z.2.2.2.2.2.1) (b := k) (by omega) (by omega)).mpr h)
        refine lv_iload_n hx hb dX8_sum_14 rfl (lv_at hl 1 rfl) ?_
        refine lv_aload_n hx hb dX8_sum_15 rfl (lv_at hl 2 rfl) ?_
        refine va_get (D := D) (ci := 8) (v := .ref m1) (C := RX8) (T := TX8) (N := 13) hx hb hts inX8_sum_8 hown hK hP 0 rfl rfl 0 (by decide) (hts (.fieldLink RX8 7 "WeighingConverterModel" "z" "[I") (List.mem_of_getElem? (i := 1) rfl)) (fun _ h9 => h9) rfl dX8_sum_16 ?_
        refine lv_bipush (v := 7) hx hb dX8_sum_19 (by decide) ?_
        refine lv_iload_n hx hb dX8_sum_21 rfl (lv_at hl 0 rfl) ?_
        refine lv_iadd hx hb dX8_sum_22 ?_
        refine k_topi (y := nI (7 + k)) (nI_add 7 k) ?_
        refine k_iald (k := 7 + k) hx hb hK hP 1 0 rfl rfl (by omega) (by decide) dX8_sum_23 ?_
        refine k_topi (y := z.2.2.2.2.2.2.2.1 k) (zArr_w (by omega)) ?_
        refine lv_iadd hx hb dX8_sum_24 ?_
        refine lv_istore_n (lv' := [(1, .int ((sumW z.2.2.2.2.2.2.2.1 k) + (z.2.2.2.2.2.2.2.1 k))), (2, .int (nI k)), (0, .ref m0)]) hx hb dX8_sum_25 rfl hl (by decide) rfl (fun ls hl => ?_)
        refine lv_iinc (v := nI (k + 1)) (lv' := [(2, .int (nI (k + 1))), (1, .int ((sumW z.2.2.2.2.2.2.2.1 k) + (z.2.2.2.2.2.2.2.1 k))), (0, .ref m0)]) hx hb dX8_sum_26 hl (k := 1) rfl (by exact k_inc k) (by decide) rfl (fun ls hl => ?_)
        refine lv_goto (tgt := 4) hx hb dX8_sum_29 (by decide) ?_
        exact ih4 (k + 1) (by first | assumption | omega) (by omega) _ _ (hP.sub [0, 1] rfl) (hD.sub [0, 1] (by decide) rfl) hS _ (lv_sub hl [0, 1, 2] rfl)
  exact J4 (z.2.2.2.2.2.1 - 0 + 1) 0 (by first | assumption | omega) (Nat.lt_succ_self _) _ _ (hP.sub [0, 1] rfl) (hD.sub [0, 1] (by decide) rfl) hS _ (lv_sub hl [0, 1, 2] rfl)

theorem inX8_total_8 : ∀ w ∈ wsX80, w ∈ wsX8_total := fun _ h => List.mem_cons_of_mem _ (List.mem_append_right _ h)
abbrev rmkX8_total : Room := { frames := 1, cells := 0, slots := 0, locals := 22 }
set_option maxHeartbeats 4000000 in
set_option maxRecDepth 100000 in
theorem kX8_total (l : Launch) (D : va_G) (sz : Nat) (cI : ClassId) (cC : ClassId) (cJ : ClassId) (cZ : ClassId) (cQ : ClassId) (m0 : Nat) (m1 : Nat) (m2 : Nat) (m3 : Nat) (m4 : Nat) (m5 : Nat) (m6 : Nat) (sm : Nat) (ln : Nat) (sp : Nat) (tm : Nat) (th : Int32) (lf : Int32) (kp : Int32) (z : StV) (hwc : z.2.2.2.2.2.1 ≤ 12) : Met l yX8_total wsX8_total rmkX8_total (va_Pc [.ref m0] (kPre D sz [(m0, .inr (8, [.ref m1, .ref m2, .int (nI sm), .ref m3, .int (nI ln), .int th, .ref m4, .int lf, .int kp, .ref m5, .int (nI sp), .ref m6, .int (nI tm)])), (m1, .inl (cI, 43, .inl (zArr z)))] (kT cI cC cJ cZ cQ))) (kQi D (sumW z.2.2.2.2.2.2.2.1 z.2.2.2.2.2.1) [(m0, .inr (8, [.ref m1, .ref m2, .int (nI sm), .ref m3, .int (nI ln), .int 0, .ref m4, .int lf, .int kp, .ref m5, .int (nI sp), .ref m6, .int (nI tm)])), (m1, .inl (cI, 43, .inl (zArr z)))] (va_A [(m0, .inr (8, [.ref m1, .ref m2, .int (nI sm), .ref m3, .int (nI ln), .int th, .ref m4, .int lf, .int kp, .ref m5, .int (nI sp), .ref m6, .int (nI tm)])), (m1, .inl (cI, 43, .inl (zArr z)))] sz)) 0 0 (va_A [(m0, .inr (8, [.ref m1, .ref m2, .int (nI sm), .ref m3, .int (nI ln), .int th, .ref m4, .int lf, .int kp, .ref m5, .int (nI sp), .ref m6, .int (nI tm)])), (m1, .inl (cI, 43, .inl (zArr z)))] sz) := by
  refine k_met (Qf := kQi D (sumW z.2.2.2.2.2.2.2.1 z.2.2.2.2.2.1) [(m0, .inr (8, [.ref m1, .ref m2, .int (nI sm), .ref m3, .int (nI ln), .int 0, .ref m4, .int lf, .int kp, .ref m5, .int (nI sp), .ref m6, .int (nI tm)])), (m1, .inl (cI, 43, .inl (zArr z)))]) (cc := cX8_total) (maxL := 1) (ret := (some .int)) (own := RX8) (by decide) rfl (Nat.le_of_ble_eq_true rfl) rfl ?_
  intro p e s m args below meth c ls A H locs hx hb hr hts hown hlocks hml hin hsz hP hK hD hA hS hN hl
  have hl : lv_has ls 1 [(0, .ref m0)] := hl
  refine lv_aload_n hx hb dX8_total_0 rfl (lv_at hl 0 rfl) ?_
  refine lv_iconst (v := 0) hx hb dX8_total_1 (by decide) ?_
  refine va_put (D := D) (ci := 8) (v := .int 0) (ty := .int) (C := RX8) (T := TX8) (N := 13) hx hb hts inX8_total_8 tyX8 tyX8_ok nmX8 hown hK hP hD hS 0 rfl rfl 5 (by decide) (hts (.fieldLink RX8 29 "WeighingConverterModel" "thrown" "I") (List.mem_of_getElem? (i := 1) rfl)) (fun _ h9 => h9) rfl (by decide +kernel) rfl rfl (Nat.le_of_ble_eq_true rfl) dX8_total_2 (fun H locs hP hD hS => ?_)
  have hP : va_P D vwCl [(m0, .inr (8, [.ref m1, .ref m2, .int (nI sm), .ref m3, .int (nI ln), .int 0, .ref m4, .int lf, .int kp, .ref m5, .int (nI sp), .ref m6, .int (nI tm)])), (m1, .inl (cI, 43, .inl (zArr z)))] H := hP
  have hD : va_D A [(m0, .inr (8, [.ref m1, .ref m2, .int (nI sm), .ref m3, .int (nI ln), .int 0, .ref m4, .int lf, .int kp, .ref m5, .int (nI sp), .ref m6, .int (nI tm)])), (m1, .inl (cI, 43, .inl (zArr z)))] := hD
  refine lv_aload_n hx hb dX8_total_5 rfl (lv_at hl 0 rfl) ?_
  refine kv_i (As := []) (rest := []) (wr := []) ⟨hx, hb, hml, hown, hts⟩ (kX8_sum l D H.size cI cC cJ cZ cQ m0 m1 m2 m3 m4 m5 m6 sm ln sp tm 0 lf kp z (by first | assumption | omega)) (cwV 0 hts gX8_total_X8_sum rfl rfl rfl (by decide +kernel) ⟨Nat.le_of_ble_eq_true rfl, Nat.le_of_ble_eq_true rfl⟩) hP hD hK hS hA hN [0, 1] [] rfl rfl (by decide) (by decide) (by decide) 0 8 rfl rfl rfl rfl hl.1 rfl (Nat.le_of_ble_eq_true rfl) dX8_total_6 ⟨Nat.zero_le _, Nat.zero_le _⟩ (fun H locs hP hD hS => ?_)
  have hP : va_P D vwCl [(m0, .inr (8, [.ref m1, .ref m2, .int (nI sm), .ref m3, .int (nI ln), .int 0, .ref m4, .int lf, .int kp, .ref m5, .int (nI sp), .ref m6, .int (nI tm)])), (m1, .inl (cI, 43, .inl (zArr z)))] H := hP
  have hD : va_D A [(m0, .inr (8, [.ref m1, .ref m2, .int (nI sm), .ref m3, .int (nI ln), .int 0, .ref m4, .int lf, .int kp, .ref m5, .int (nI sp), .ref m6, .int (nI tm)])), (m1, .inl (cI, 43, .inl (zArr z)))] := hD
  have hP9 := hP.sub (ws' := [(m0, .inr (8, [.ref m1, .ref m2, .int (nI sm), .ref m3, .int (nI ln), .int 0, .ref m4, .int lf, .int kp, .ref m5, .int (nI sp), .ref m6, .int (nI tm)])), (m1, .inl (cI, 43, .inl (zArr z)))]) [0, 1] rfl
  have hD9 := hD.sub (ws' := [(m0, .inr (8, [.ref m1, .ref m2, .int (nI sm), .ref m3, .int (nI ln), .int 0, .ref m4, .int lf, .int kp, .ref m5, .int (nI sp), .ref m6, .int (nI tm)])), (m1, .inl (cI, 43, .inl (zArr z)))]) [0, 1] (by decide) rfl
  exact kr_i (v := sumW z.2.2.2.2.2.2.2.1 z.2.2.2.2.2.1) hx hb hr hlocks hP9 hD9 hS rfl dX8_total_9

theorem inX8_ahead_8 : ∀ w ∈ wsX80, w ∈ wsX8_ahead := fun _ h => List.mem_cons_of_mem _ (List.mem_append_right _ h)
abbrev rmkX8_ahead : Room := { frames := 0, cells := 0, slots := 0, locals := 0 }
set_option maxHeartbeats 4000000 in
set_option maxRecDepth 100000 in
theorem kX8_ahead (l : Launch) (D : va_G) (sz : Nat) (cI : ClassId) (cC : ClassId) (cJ : ClassId) (cZ : ClassId) (cQ : ClassId) (m0 : Nat) (m1 : Nat) (m2 : Nat) (m3 : Nat) (m4 : Nat) (m5 : Nat) (m6 : Nat) (sm : Nat) (ln : Nat) (sp : Nat) (tm : Nat) (th : Int32) (lf : Int32) (kp : Int32) (z : StV) (i : Nat) (hwc : z.2.2.2.2.2.1 ≤ 12) (hi : i < z.2.2.2.2.2.1) : Met l yX8_ahead wsX8_ahead rmkX8_ahead (va_Pc [.ref m0, .int (nI i)] (kPre D sz [(m0, .inr (8, [.ref m1, .ref m2, .int (nI sm), .ref m3, .int (nI ln), .int th, .ref m4, .int lf, .int kp, .ref m5, .int (nI sp), .ref m6, .int (nI tm)])), (m1, .inl (cI, 43, .inl (zArr z)))] (kT cI cC cJ cZ cQ))) (kQi D (nI (rnk z.2.2.2.2.2.2.2.1 i z.2.2.2.2.2.1)) [(m0, .inr (8, [.ref m1, .ref m2, .int (nI sm), .ref m3, .int (nI ln), .int th, .ref m4, .int lf, .int kp, .ref m5, .int (nI sp), .ref m6, .int (nI tm)])), (m1, .inl (cI, 43, .inl (zArr z)))] (va_A [(m0, .inr (8, [.ref m1, .ref m2, .int (nI sm), .ref m3, .int (nI ln), .int th, .ref m4, .int lf, .int kp, .ref m5, .int (nI sp), .ref m6, .int (nI tm)])), (m1, .inl (cI, 43, .inl (zArr z)))] sz)) 0 0 (va_A [(m0, .inr (8, [.ref m1, .ref m2, .int (nI sm), .ref m3, .int (nI ln), .int th, .ref m4, .int lf, .int kp, .ref m5, .int (nI sp), .ref m6, .int (nI tm)])), (m1, .inl (cI, 43, .inl (zArr z)))] sz) := by
  refine k_met (Qf := kQi D (nI (rnk z.2.2.2.2.2.2.2.1 i z.2.2.2.2.2.1)) [(m0, .inr (8, [.ref m1, .ref m2, .int (nI sm), .ref m3, .int (nI ln), .int th, .ref m4, .int lf, .int kp, .ref m5, .int (nI sp), .ref m6, .int (nI tm)])), (m1, .inl (cI, 43, .inl (zArr z)))]) (cc := cX8_ahead) (maxL := 4) (ret := (some .int)) (own := RX8) (by decide) rfl (Nat.le_of_ble_eq_true rfl) rfl ?_
  intro p e s m args below meth c ls A H locs hx hb hr hts hown hlocks hml hin hsz hP hK hD hA hS hN hl
  have hl : lv_has ls 4 [(0, .ref m0), (1, .int (nI i))] := hl
  refine lv_iconst (v := 0) hx hb dX8_ahead_0 (by decide) ?_
  refine lv_istore_n (lv' := [(2, .int 0), (0, .ref m0), (1, .int (nI i))]) hx hb dX8_ahead_1 rfl hl (by decide) rfl (fun ls hl => ?_)
  refine lv_iconst (v := 0) hx hb dX8_ahead_2 (by decide) ?_
  refine lv_istore_n (lv' := [(3, .int 0), (2, .int 0), (0, .ref m0), (1, .int (nI i))]) hx hb dX8_ahead_3 rfl hl (by decide) rfl (fun ls hl => ?_)
  have J4 : ∀ (fuel : Nat) (k : Nat) (b : Nat) (hk : k ≤ z.2.2.2.2.2.1) (hb9 : b = rnk z.2.2.2.2.2.2.2.1 i k) (hm : z.2.2.2.2.2.1 - k < fuel) (H : Heap) (locs : List Loc) (hP : va_P D vwCl [(m0, .inr (8, [.ref m1, .ref m2, .int (nI sm), .ref m3, .int (nI ln), .int th, .ref m4, .int lf, .int kp, .ref m5, .int (nI sp), .ref m6, .int (nI tm)])), (m1, .inl (cI, 43, .inl (zArr z)))] H) (hD : va_D A [(m0, .inr (8, [.ref m1, .ref m2, .int (nI sm), .ref m3, .int (nI ln), .int th, .ref m4, .int lf, .int kp, .ref m5, .int (nI sp), .ref m6, .int (nI tm)])), (m1, .inl (cI, 43, .inl (zArr z)))]) (hS : va_S A s.heap H locs) (ls : Array Slot) (hl : lv_has ls 4 [(3, .int (nI k)), (2, .int (nI b)), (0, .ref m0), (1, .int (nI i))]), W p l e rmkX8_ahead s m args below meth c H locs 0 0 (MQ below (kQi D (nI (rnk z.2.2.2.2.2.2.2.1 i z.2.2.2.2.2.1)) [(m0, .inr (8, [.ref m1, .ref m2, .int (nI sm), .ref m3, .int (nI ln), .int th, .ref m4, .int lf, .int kp, .ref m5, .int (nI sp), .ref m6, .int (nI tm)])), (m1, .inl (cI, 43, .inl (zArr z)))] A) args s 0 0 A) (F0 m 4 ls []) := by
    intro fuel
    induction fuel with
    | zero => intro k b hk hb9 hm; exact absurd hm (Nat.not_lt_zero _)
    | succ fuel ih4 =>
      intro k b hk hb9 hm H locs hP hD hS ls hl
      refine lv_iload_n hx hb dX8_ahead_4 rfl (lv_at hl 0 rfl) ?_
      refine lv_aload_n hx hb dX8_ahead_5 rfl (lv_at hl 2 rfl) ?_
      refine va_get (D := D) (ci := 8) (v := .ref m1) (C := RX8) (T := TX8) (N := 13) hx hb hts inX8_ahead_8 hown hK hP 0 rfl rfl 0 (by decide) (hts (.fieldLink RX8 7 "WeighingConverterModel" "z" "[I") (List.mem_of_getElem? (i := 1) rfl)) (fun _ h9 => h9) rfl dX8_ahead_6 ?_
      refine lv_iconst (v := 5) hx hb dX8_ahead_9 (by decide) ?_
      refine k_iald (k := 5) hx hb hK hP 1 0 rfl rfl (by omega) (by decide) dX8_ahead_10 ?_
      refine k_topi (y := nI z.2.2.2.2.2.1) rfl ?_
      refine lv_icmp_ge (tgt := 75) hx hb dX8_ahead_11 (by decide) (fun c_11 => ?_) (fun c_11 => ?_)
      · have c_11 : z.2.2.2.2.2.1 ≤ k := (nI_leI (a := z.2.2.2.2.2.1) (b := k) (by omega) (by omega)).mp c_11
        refine lv_iload_n hx hb dX8_ahead_75 rfl (lv_at hl 1 rfl) ?_
        have hP9 := hP.sub (ws' := [(m0, .inr (8, [.ref m1, .ref m2, .int (nI sm), .ref m3, .int (nI ln), .int th, .ref m4, .int lf, .int kp, .ref m5, .int (nI sp), .ref m6, .int (nI tm)])), (m1, .inl (cI, 43, .inl (zArr z)))]) [0, 1] rfl
        have hD9 := hD.sub (ws' := [(m0, .inr (8, [.ref m1, .ref m2, .int (nI sm), .ref m3, .int (nI ln), .int th, .ref m4, .int lf, .int kp, .ref m5, .int (nI sp), .ref m6, .int (nI tm)])), (m1, .inl (cI, 43, .inl (zArr z)))]) [0, 1] (by decide) rfl
        exact kr_i (v := nI b) hx hb hr hlocks hP9 hD9 hS (by rw [hb9, show k = z.2.2.2.2.2.1 from by omega]) dX8_ahead_76
      · have c_11 : ¬ z.2.2.2.2.2.1 ≤ k := fun h => c_11 ((nI_leI (a := z.2.2.2.2.2.1) (b := k) (by omega) (by omega)).mpr h)
        refine lv_iload_n hx hb dX8_ahead_14 rfl (lv_at hl 1 rfl) ?_
        refine lv_aload_n hx hb dX8_ahead_15 rfl (lv_at hl 2 rfl) ?_
        refine va_get (D := D) (ci := 8) (v := .ref m1) (C := RX8) (T := TX8) (N := 13) hx hb hts inX8_ahead_8 hown hK hP 0 rfl rfl 0 (by decide) (hts (.fieldLink RX8 7 "WeighingConverterModel" "z" "[I") (List.mem_of_getElem? (i := 1) rfl)) (fun _ h9 => h9) rfl dX8_ahead_16 ?_
        refine lv_bipush (v := 7) hx hb dX8_ahead_19 (by decide) ?_
        refine lv_iload_n hx hb dX8_ahead_21 rfl (lv_at hl 0 rfl) ?_
        refine lv_iadd hx hb dX8_ahead_22 ?_
        refine k_topi (y := nI (7 + k)) (nI_add 7 k) ?_
        refine k_iald (k := 7 + k) hx hb hK hP 1 0 rfl rfl (by omega) (by decide) dX8_ahead_23 ?_
        refine k_topi (y := z.2.2.2.2.2.2.2.1 k) (zArr_w (by omega)) ?_
        refine lv_aload_n hx hb dX8_ahead_24 rfl (lv_at hl 2 rfl) ?_
        refine va_get (D := D) (ci := 8) (v := .ref m1) (C := RX8) (T := TX8) (N := 13) hx hb hts inX8_ahead_8 hown hK hP 0 rfl rfl 0 (by decide) (hts (.fieldLink RX8 7 "WeighingConverterModel" "z" "[I") (List.mem_of_getElem? (i := 1) rfl)) (fun _ h9 => h9) rfl dX8_ahead_25 ?_
        refine lv_bipush (v := 7) hx hb dX8_ahead_28 (by decide) ?_
        refine lv_iload_n hx hb dX8_ahead_30 rfl (lv_at hl 3 rfl) ?_
        refine lv_iadd hx hb dX8_ahead_31 ?_
        refine k_topi (y := nI (7 + i)) (nI_add 7 i) ?_
        refine k_iald (k := 7 + i) hx hb hK hP 1 0 rfl rfl (by omega) (by decide) dX8_ahead_32 ?_
        refine k_topi (y := z.2.2.2.2.2.2.2.1 i) (zArr_w (by omega)) ?_
        refine lv_icmp_gt (tgt := 62) hx hb dX8_ahead_33 (by decide) (fun c_33 => ?_) (fun c_33 => ?_)
        · refine lv_iconst (v := 1) hx hb dX8_ahead_62 (by decide) ?_
          refine lv_goto (tgt := 67) hx hb dX8_ahead_63 (by decide) ?_
          refine lv_iadd hx hb dX8_ahead_67 ?_
          refine k_topi (y := nI (b + 1)) (nI_add b 1) ?_
          refine lv_istore_n (lv' := [(2, .int (nI (b + 1))), (3, .int (nI k)), (0, .ref m0), (1, .int (nI i))]) hx hb dX8_ahead_68 rfl hl (by decide) rfl (fun ls hl => ?_)
          refine lv_iinc (v := nI (k + 1)) (lv' := [(3, .int (nI (k + 1))), (2, .int (nI (b + 1))), (0, .ref m0), (1, .int (nI i))]) hx hb dX8_ahead_69 hl (k := 1) rfl (by exact k_inc k) (by decide) rfl (fun ls hl => ?_)
          refine lv_goto (tgt := 4) hx hb dX8_ahead_72 (by decide) ?_
          exact ih4 (k + 1) (b + 1) (by first | assumption | omega) (by rw [hb9]; simp only [rnk, i_lt, i_le, i_eq] at c_33 ⊢; split <;> omega) (by omega) _ _ (hP.sub [0, 1] rfl) (hD.sub [0, 1] (by decide) rfl) hS _ (lv_sub hl [0, 1, 2, 3] rfl)
        · refine lv_aload_n hx hb dX8_ahead_36 rfl (lv_at hl 2 rfl) ?_
          refine va_get (D := D) (ci := 8) (v := .ref m1) (C := RX8) (T := TX8) (N := 13) hx hb hts inX8_ahead_8 hown hK hP 0 rfl rfl 0 (by decide) (hts (.fieldLink RX8 7 "WeighingConverterModel" "z" "[I") (List.mem_of_getElem? (i := 1) rfl)) (fun _ h9 => h9) rfl dX8_ahead_37 ?_
          refine lv_bipush (v := 7) hx hb dX8_ahead_40 (by decide) ?_
          refine lv_iload_n hx hb dX8_ahead_42 rfl (lv_at hl 0 rfl) ?_
          refine lv_iadd hx hb dX8_ahead_43 ?_
          refine k_topi (y := nI (7 + k)) (nI_add 7 k) ?_
          refine k_iald (k := 7 + k) hx hb hK hP 1 0 rfl rfl (by omega) (by decide) dX8_ahead_44 ?_
          refine k_topi (y := z.2.2.2.2.2.2.2.1 k) (zArr_w (by omega)) ?_
          refine lv_aload_n hx hb dX8_ahead_45 rfl (lv_at hl 2 rfl) ?_
          refine va_get (D := D) (ci := 8) (v := .ref m1) (C := RX8) (T := TX8) (N := 13) hx hb hts inX8_ahead_8 hown hK hP 0 rfl rfl 0 (by decide) (hts (.fieldLink RX8 7 "WeighingConverterModel" "z" "[I") (List.mem_of_getElem? (i := 1) rfl)) (fun _ h9 => h9) rfl dX8_ahead_46 ?_
          refine lv_bipush (v := 7) hx hb dX8_ahead_49 (by decide) ?_
          refine lv_iload_n hx hb dX8_ahead_51 rfl (lv_at hl 3 rfl) ?_
          refine lv_iadd hx hb dX8_ahead_52 ?_
          refine k_topi (y := nI (7 + i)) (nI_add 7 i) ?_
          refine k_iald (k := 7 + i) hx hb hK hP 1 0 rfl rfl (by omega) (by decide) dX8_ahead_53 ?_
          refine k_topi (y := z.2.2.2.2.2.2.2.1 i) (zArr_w (by omega)) ?_
          refine lv_icmp_ne (tgt := 66) hx hb dX8_ahead_54 (by decide) (fun c_54 => ?_) (fun c_54 => ?_)
          · refine lv_iconst (v := 0) hx hb dX8_ahead_66 (by decide) ?_
            refine lv_iadd hx hb dX8_ahead_67 ?_
            refine k_topi (y := nI (b + 0)) (nI_add b 0) ?_
            refine lv_istore_n (lv' := [(2, .int (nI (b + 0))), (3, .int (nI k)), (0, .ref m0), (1, .int (nI i))]) hx hb dX8_ahead_68 rfl hl (by decide) rfl (fun ls hl => ?_)
            refine lv_iinc (v := nI (k + 1)) (lv' := [(3, .int (nI (k + 1))), (2, .int (nI (b + 0))), (0, .ref m0), (1, .int (nI i))]) hx hb dX8_ahead_69 hl (k := 1) rfl (by exact k_inc k) (by decide) rfl (fun ls hl => ?_)
            refine lv_goto (tgt := 4) hx hb dX8_ahead_72 (by decide) ?_
            exact ih4 (k + 1) (b + 0) (by first | assumption | omega) (by rw [hb9]; simp only [rnk, i_lt, i_le, i_eq] at c_33 c_54 ⊢; split <;> omega) (by omega) _ _ (hP.sub [0, 1] rfl) (hD.sub [0, 1] (by decide) rfl) hS _ (lv_sub hl [0, 1, 2, 3] rfl)
          · refine lv_iload_n hx hb dX8_ahead_57 rfl (lv_at hl 0 rfl) ?_
            refine lv_iload_n hx hb dX8_ahead_58 rfl (lv_at hl 3 rfl) ?_
            refine lv_icmp_ge (tgt := 66) hx hb dX8_ahead_59 (by decide) (fun c_59 => ?_) (fun c_59 => ?_)
            · have c_59 : i ≤ k := (nI_leI (a := i) (b := k) (by omega) (by omega)).mp c_59
              refine lv_iconst (v := 0) hx hb dX8_ahead_66 (by decide) ?_
              refine lv_iadd hx hb dX8_ahead_67 ?_
              refine k_topi (y := nI (b + 0)) (nI_add b 0) ?_
              refine lv_istore_n (lv' := [(2, .int (nI (b + 0))), (3, .int (nI k)), (0, .ref m0), (1, .int (nI i))]) hx hb dX8_ahead_68 rfl hl (by decide) rfl (fun ls hl => ?_)
              refine lv_iinc (v := nI (k + 1)) (lv' := [(3, .int (nI (k + 1))), (2, .int (nI (b + 0))), (0, .ref m0), (1, .int (nI i))]) hx hb dX8_ahead_69 hl (k := 1) rfl (by exact k_inc k) (by decide) rfl (fun ls hl => ?_)
              refine lv_goto (tgt := 4) hx hb dX8_ahead_72 (by decide) ?_
              exact ih4 (k + 1) (b + 0) (by first | assumption | omega) (by rw [hb9]; simp only [rnk, i_lt, i_le, i_eq] at c_33 c_54 ⊢; split <;> omega) (by omega) _ _ (hP.sub [0, 1] rfl) (hD.sub [0, 1] (by decide) rfl) hS _ (lv_sub hl [0, 1, 2, 3] rfl)
            · have c_59 : ¬ i ≤ k := fun h => c_59 ((nI_leI (a := i) (b := k) (by omega) (by omega)).mpr h)
              refine lv_iconst (v := 1) hx hb dX8_ahead_62 (by decide) ?_
              refine lv_goto (tgt := 67) hx hb dX8_ahead_63 (by decide) ?_
              refine lv_iadd hx hb dX8_ahead_67 ?_
              refine k_topi (y := nI (b + 1)) (nI_add b 1) ?_
              refine lv_istore_n (lv' := [(2, .int (nI (b + 1))), (3, .int (nI k)), (0, .ref m0), (1, .int (nI i))]) hx hb dX8_ahead_68 rfl hl (by decide) rfl (fun ls hl => ?_)
              refine lv_iinc (v := nI (k + 1)) (lv' := [(3, .int (nI (k + 1))), (2, .int (nI (b + 1))), (0, .ref m0), (1, .int (nI i))]) hx hb dX8_ahead_69 hl (k := 1) rfl (by exact k_inc k) (by decide) rfl (fun ls hl => ?_)
              refine lv_goto (tgt := 4) hx hb dX8_ahead_72 (by decide) ?_
              exact ih4 (k + 1) (b + 1) (by first | assumption | omega) (by rw [hb9]; simp only [rnk, i_lt, i_le, i_eq] at c_33 c_54 ⊢; split <;> omega) (by omega) _ _ (hP.sub [0, 1] rfl) (hD.sub [0, 1] (by decide) rfl) hS _ (lv_sub hl [0, 1, 2, 3] rfl)
  exact J4 (z.2.2.2.2.2.1 - 0 + 1) 0 0 (by first | assumption | omega) rfl (Nat.lt_succ_self _) _ _ (hP.sub [0, 1] rfl) (hD.sub [0, 1] (by decide) rfl) hS _ (lv_sub hl [0, 1, 2, 3] rfl)

theorem inX8_errorOf_8 : ∀ w ∈ wsX80, w ∈ wsX8_errorOf := fun _ h => List.mem_cons_of_mem _ (List.mem_append_right _ h)
abbrev rmkX8_errorOf : Room := { frames := 0, cells := 0, slots := 0, locals := 0 }
set_option maxHeartbeats 4000000 in
set_option maxRecDepth 100000 in
theorem kX8_errorOf (l : Launch) (D : va_G) (sz : Nat) (cI : ClassId) (cC : ClassId) (cJ : ClassId) (cZ : ClassId) (cQ : ClassId) (m0 : Nat) (m1 : Nat) (m2 : Nat) (m3 : Nat) (m4 : Nat) (m5 : Nat) (m6 : Nat) (sm : Nat) (ln : Nat) (sp : Nat) (tm : Nat) (th : Int32) (lf : Int32) (kp : Int32) (z : StV) (i : Nat) (hi : i < 8) : Met l yX8_errorOf wsX8_errorOf rmkX8_errorOf (va_Pc [.ref m0, .int (nI i)] (kPre D sz [(m0, .inr (8, [.ref m1, .ref m2, .int (nI sm), .ref m3, .int (nI ln), .int th, .ref m4, .int lf, .int kp, .ref m5, .int (nI sp), .ref m6, .int (nI tm)])), (m1, .inl (cI, 43, .inl (zArr z)))] (kT cI cC cJ cZ cQ))) (kQi D (16 * z.2.2.2.2.2.2.2.2.2.2 i - z.2.2.2.2.2.2.2.2.1 i) [(m0, .inr (8, [.ref m1, .ref m2, .int (nI sm), .ref m3, .int (nI ln), .int th, .ref m4, .int lf, .int kp, .ref m5, .int (nI sp), .ref m6, .int (nI tm)])), (m1, .inl (cI, 43, .inl (zArr z)))] (va_A [(m0, .inr (8, [.ref m1, .ref m2, .int (nI sm), .ref m3, .int (nI ln), .int th, .ref m4, .int lf, .int kp, .ref m5, .int (nI sp), .ref m6, .int (nI tm)])), (m1, .inl (cI, 43, .inl (zArr z)))] sz)) 0 0 (va_A [(m0, .inr (8, [.ref m1, .ref m2, .int (nI sm), .ref m3, .int (nI ln), .int th, .ref m4, .int lf, .int kp, .ref m5, .int (nI sp), .ref m6, .int (nI tm)])), (m1, .inl (cI, 43, .inl (zArr z)))] sz) := by
  refine k_met (Qf := kQi D (16 * z.2.2.2.2.2.2.2.2.2.2 i - z.2.2.2.2.2.2.2.2.1 i) [(m0, .inr (8, [.ref m1, .ref m2, .int (nI sm), .ref m3, .int (nI ln), .int th, .ref m4, .int lf, .int kp, .ref m5, .int (nI sp), .ref m6, .int (nI tm)])), (m1, .inl (cI, 43, .inl (zArr z)))]) (cc := cX8_errorOf) (maxL := 2) (ret := (some .int)) (own := RX8) (by decide) rfl (Nat.le_of_ble_eq_true rfl) rfl ?_
  intro p e s m args below meth c ls A H locs hx hb hr hts hown hlocks hml hin hsz hP hK hD hA hS hN hl
  have hl : lv_has ls 2 [(0, .ref m0), (1, .int (nI i))] := hl
  refine lv_bipush (v := 16) hx hb dX8_errorOf_0 (by decide) ?_
  refine lv_aload_n hx hb dX8_errorOf_2 rfl (lv_at hl 0 rfl) ?_
  refine va_get (D := D) (ci := 8) (v := .ref m1) (C := RX8) (T := TX8) (N := 13) hx hb hts inX8_errorOf_8 hown hK hP 0 rfl rfl 0 (by decide) (hts (.fieldLink RX8 7 "WeighingConverterModel" "z" "[I") (List.mem_of_getElem? (i := 1) rfl)) (fun _ h9 => h9) rfl dX8_errorOf_3 ?_
  refine lv_bipush (v := 19) hx hb dX8_errorOf_6 (by decide) ?_
  refine lv_iconst (v := 3) hx hb dX8_errorOf_8 (by decide) ?_
  refine lv_iload_n hx hb dX8_errorOf_9 rfl (lv_at hl 1 rfl) ?_
  refine lv_imul hx hb dX8_errorOf_10 ?_
  refine k_topi (y := nI (3 * i)) (pk_mul 3 i) ?_
  refine lv_iadd hx hb dX8_errorOf_11 ?_
  refine k_topi (y := nI (19 + (3 * i))) (nI_add 19 (3 * i)) ?_
  refine lv_iconst (v := 2) hx hb dX8_errorOf_12 (by decide) ?_
  refine lv_iadd hx hb dX8_errorOf_13 ?_
  refine k_topi (y := nI ((19 + (3 * i)) + 2)) (nI_add (19 + (3 * i)) 2) ?_
  refine k_iald (k := (19 + (3 * i)) + 2) hx hb hK hP 1 0 rfl rfl (by omega) (by decide) dX8_errorOf_14 ?_
  refine k_topi (y := z.2.2.2.2.2.2.2.2.2.2 i) (zArr_l2 (by omega)) ?_
  refine lv_imul hx hb dX8_errorOf_15 ?_
  refine lv_aload_n hx hb dX8_errorOf_16 rfl (lv_at hl 0 rfl) ?_
  refine va_get (D := D) (ci := 8) (v := .ref m1) (C := RX8) (T := TX8) (N := 13) hx hb hts inX8_errorOf_8 hown hK hP 0 rfl rfl 0 (by decide) (hts (.fieldLink RX8 7 "WeighingConverterModel" "z" "[I") (List.mem_of_getElem? (i := 1) rfl)) (fun _ h9 => h9) rfl dX8_errorOf_17 ?_
  refine lv_bipush (v := 19) hx hb dX8_errorOf_20 (by decide) ?_
  refine lv_iconst (v := 3) hx hb dX8_errorOf_22 (by decide) ?_
  refine lv_iload_n hx hb dX8_errorOf_23 rfl (lv_at hl 1 rfl) ?_
  refine lv_imul hx hb dX8_errorOf_24 ?_
  refine k_topi (y := nI (3 * i)) (pk_mul 3 i) ?_
  refine lv_iadd hx hb dX8_errorOf_25 ?_
  refine k_topi (y := nI (19 + (3 * i))) (nI_add 19 (3 * i)) ?_
  refine k_iald (k := 19 + (3 * i)) hx hb hK hP 1 0 rfl rfl (by omega) (by decide) dX8_errorOf_26 ?_
  refine k_topi (y := z.2.2.2.2.2.2.2.2.1 i) (zArr_l0 (by omega)) ?_
  refine lv_isub hx hb dX8_errorOf_27 ?_
  have hP9 := hP.sub (ws' := [(m0, .inr (8, [.ref m1, .ref m2, .int (nI sm), .ref m3, .int (nI ln), .int th, .ref m4, .int lf, .int kp, .ref m5, .int (nI sp), .ref m6, .int (nI tm)])), (m1, .inl (cI, 43, .inl (zArr z)))]) [0, 1] rfl
  have hD9 := hD.sub (ws' := [(m0, .inr (8, [.ref m1, .ref m2, .int (nI sm), .ref m3, .int (nI ln), .int th, .ref m4, .int lf, .int kp, .ref m5, .int (nI sp), .ref m6, .int (nI tm)])), (m1, .inl (cI, 43, .inl (zArr z)))]) [0, 1] (by decide) rfl
  exact kr_i (v := (16 * (z.2.2.2.2.2.2.2.2.2.2 i)) - (z.2.2.2.2.2.2.2.2.1 i)) hx hb hr hlocks hP9 hD9 hS rfl dX8_errorOf_28

theorem inX8_weigh_8 : ∀ w ∈ wsX80, w ∈ wsX8_weigh := fun _ h => List.mem_cons_of_mem _ (List.mem_append_right _ h)
abbrev rmkX8_weigh : Room := { frames := 1, cells := 0, slots := 0, locals := 21 }
set_option maxHeartbeats 4000000 in
set_option maxRecDepth 100000 in
theorem kX8_weigh (l : Launch) (D : va_G) (sz : Nat) (cI : ClassId) (cC : ClassId) (cJ : ClassId) (cZ : ClassId) (cQ : ClassId) (m0 : Nat) (m1 : Nat) (m2 : Nat) (m3 : Nat) (m4 : Nat) (m5 : Nat) (m6 : Nat) (sm : Nat) (ln : Nat) (sp : Nat) (tm : Nat) (th : Int32) (lf : Int32) (kp : Int32) (z : StV) (v0 : Int32) (leak : Int32) (off : Int32) (gl : Int32) (hwc : z.2.2.2.2.2.1 ≤ 12) : Met l yX8_weigh wsX8_weigh rmkX8_weigh (va_Pc [.ref m0, .int v0, .int leak, .int off, .int gl] (kPre D sz [(m0, .inr (8, [.ref m1, .ref m2, .int (nI sm), .ref m3, .int (nI ln), .int th, .ref m4, .int lf, .int kp, .ref m5, .int (nI sp), .ref m6, .int (nI tm)])), (m1, .inl (cI, 43, .inl (zArr z)))] (kT cI cC cJ cZ cQ))) (kQi D ((wgS z.2.2.2.2.2.2.2.1 leak off gl v0 z.2.2.2.2.2.1).2.2) [(m0, .inr (8, [.ref m1, .ref m2, .int (nI sm), .ref m3, .int (nI ln), .int th, .ref m4, .int ((wgS z.2.2.2.2.2.2.2.1 leak off gl v0 z.2.2.2.2.2.1).1), .int ((wgS z.2.2.2.2.2.2.2.1 leak off gl v0 z.2.2.2.2.2.1).2.1), .ref m5, .int (nI sp), .ref m6, .int (nI tm)])), (m1, .inl (cI, 43, .inl (zArr z)))] (va_A [(m0, .inr (8, [.ref m1, .ref m2, .int (nI sm), .ref m3, .int (nI ln), .int th, .ref m4, .int lf, .int kp, .ref m5, .int (nI sp), .ref m6, .int (nI tm)])), (m1, .inl (cI, 43, .inl (zArr z)))] sz)) 0 0 (va_A [(m0, .inr (8, [.ref m1, .ref m2, .int (nI sm), .ref m3, .int (nI ln), .int th, .ref m4, .int lf, .int kp, .ref m5, .int (nI sp), .ref m6, .int (nI tm)])), (m1, .inl (cI, 43, .inl (zArr z)))] sz) := by
  refine k_met (Qf := kQi D ((wgS z.2.2.2.2.2.2.2.1 leak off gl v0 z.2.2.2.2.2.1).2.2) [(m0, .inr (8, [.ref m1, .ref m2, .int (nI sm), .ref m3, .int (nI ln), .int th, .ref m4, .int ((wgS z.2.2.2.2.2.2.2.1 leak off gl v0 z.2.2.2.2.2.1).1), .int ((wgS z.2.2.2.2.2.2.2.1 leak off gl v0 z.2.2.2.2.2.1).2.1), .ref m5, .int (nI sp), .ref m6, .int (nI tm)])), (m1, .inl (cI, 43, .inl (zArr z)))]) (cc := cX8_weigh) (maxL := 8) (ret := (some .int)) (own := RX8) (by decide) rfl (Nat.le_of_ble_eq_true rfl) rfl ?_
  intro p e s m args below meth c ls A H locs hx hb hr hts hown hlocks hml hin hsz hP hK hD hA hS hN hl
  have hl : lv_has ls 8 [(0, .ref m0), (1, .int v0), (2, .int leak), (3, .int off), (4, .int gl)] := hl
  refine lv_iconst (v := 0) hx hb dX8_weigh_0 (by decide) ?_
  refine lv_istore (lv' := [(5, .int 0), (0, .ref m0), (1, .int v0), (2, .int leak), (3, .int off), (4, .int gl)]) hx hb dX8_weigh_1 hl (by decide) rfl (fun ls hl => ?_)
  refine lv_aload_n hx hb dX8_weigh_3 rfl (lv_at hl 1 rfl) ?_
  refine lv_iload_n hx hb dX8_weigh_4 rfl (lv_at hl 2 rfl) ?_
  refine va_put (D := D) (ci := 8) (v := .int v0) (ty := .int) (C := RX8) (T := TX8) (N := 13) hx hb hts inX8_weigh_8 tyX8 tyX8_ok nmX8 hown hK hP hD hS 0 rfl rfl 7 (by decide) (hts (.fieldLink RX8 73 "WeighingConverterModel" "left" "I") (List.mem_of_getElem? (i := 1) rfl)) (fun _ h9 => h9) rfl (by decide +kernel) rfl rfl (Nat.le_of_ble_eq_true rfl) dX8_weigh_5 (fun H locs hP hD hS => ?_)
  have hP : va_P D vwCl [(m0, .inr (8, [.ref m1, .ref m2, .int (nI sm), .ref m3, .int (nI ln), .int th, .ref m4, .int v0, .int kp, .ref m5, .int (nI sp), .ref m6, .int (nI tm)])), (m1, .inl (cI, 43, .inl (zArr z)))] H := hP
  have hD : va_D A [(m0, .inr (8, [.ref m1, .ref m2, .int (nI sm), .ref m3, .int (nI ln), .int th, .ref m4, .int v0, .int kp, .ref m5, .int (nI sp), .ref m6, .int (nI tm)])), (m1, .inl (cI, 43, .inl (zArr z)))] := hD
  refine lv_aload_n hx hb dX8_weigh_8 rfl (lv_at hl 1 rfl) ?_
  refine lv_iconst (v := 0) hx hb dX8_weigh_9 (by decide) ?_
  refine va_put (D := D) (ci := 8) (v := .int 0) (ty := .int) (C := RX8) (T := TX8) (N := 13) hx hb hts inX8_weigh_8 tyX8 tyX8_ok nmX8 hown hK hP hD hS 0 rfl rfl 8 (by decide) (hts (.fieldLink RX8 76 "WeighingConverterModel" "kept" "I") (List.mem_of_getElem? (i := 2) rfl)) (fun _ h9 => h9) rfl (by decide +kernel) rfl rfl (Nat.le_of_ble_eq_true rfl) dX8_weigh_10 (fun H locs hP hD hS => ?_)
  have hP : va_P D vwCl [(m0, .inr (8, [.ref m1, .ref m2, .int (nI sm), .ref m3, .int (nI ln), .int th, .ref m4, .int v0, .int 0, .ref m5, .int (nI sp), .ref m6, .int (nI tm)])), (m1, .inl (cI, 43, .inl (zArr z)))] H := hP
  have hD : va_D A [(m0, .inr (8, [.ref m1, .ref m2, .int (nI sm), .ref m3, .int (nI ln), .int th, .ref m4, .int v0, .int 0, .ref m5, .int (nI sp), .ref m6, .int (nI tm)])), (m1, .inl (cI, 43, .inl (zArr z)))] := hD
  refine lv_iconst (v := 0) hx hb dX8_weigh_13 (by decide) ?_
  refine lv_istore (lv' := [(6, .int 0), (5, .int 0), (0, .ref m0), (1, .int v0), (2, .int leak), (3, .int off), (4, .int gl)]) hx hb dX8_weigh_14 hl (by decide) rfl (fun ls hl => ?_)
  have J16 : ∀ (fuel : Nat) (k : Nat) (v : Int32) (q : Int32) (cd : Int32) (hk : k ≤ z.2.2.2.2.2.1) (hw : (v, q, cd) = wgS z.2.2.2.2.2.2.2.1 leak off gl v0 k) (hm : z.2.2.2.2.2.1 - k < fuel) (H : Heap) (locs : List Loc) (hP : va_P D vwCl [(m0, .inr (8, [.ref m1, .ref m2, .int (nI sm), .ref m3, .int (nI ln), .int th, .ref m4, .int v, .int q, .ref m5, .int (nI sp), .ref m6, .int (nI tm)])), (m1, .inl (cI, 43, .inl (zArr z)))] H) (hD : va_D A [(m0, .inr (8, [.ref m1, .ref m2, .int (nI sm), .ref m3, .int (nI ln), .int th, .ref m4, .int v, .int q, .ref m5, .int (nI sp), .ref m6, .int (nI tm)])), (m1, .inl (cI, 43, .inl (zArr z)))]) (hS : va_S A s.heap H locs) (ls : Array Slot) (hl : lv_has ls 8 [(6, .int (nI k)), (5, .int cd), (0, .ref m0), (1, .int v0), (2, .int leak), (3, .int off), (4, .int gl)]), W p l e rmkX8_weigh s m args below meth c H locs 0 0 (MQ below (kQi D ((wgS z.2.2.2.2.2.2.2.1 leak off gl v0 z.2.2.2.2.2.1).2.2) [(m0, .inr (8, [.ref m1, .ref m2, .int (nI sm), .ref m3, .int (nI ln), .int th, .ref m4, .int ((wgS z.2.2.2.2.2.2.2.1 leak off gl v0 z.2.2.2.2.2.1).1), .int ((wgS z.2.2.2.2.2.2.2.1 leak off gl v0 z.2.2.2.2.2.1).2.1), .ref m5, .int (nI sp), .ref m6, .int (nI tm)])), (m1, .inl (cI, 43, .inl (zArr z)))] A) args s 0 0 A) (F0 m 16 ls []) := by
    intro fuel
    induction fuel with
    | zero => intro k v q cd hk hw hm; exact absurd hm (Nat.not_lt_zero _)
    | succ fuel ih16 =>
      intro k v q cd hk hw hm H locs hP hD hS ls hl
      refine lv_iload hx hb dX8_weigh_16 (lv_at hl 0 rfl) ?_
      refine lv_aload_n hx hb dX8_weigh_18 rfl (lv_at hl 2 rfl) ?_
      refine va_get (D := D) (ci := 8) (v := .ref m1) (C := RX8) (T := TX8) (N := 13) hx hb hts inX8_weigh_8 hown hK hP 0 rfl rfl 0 (by decide) (hts (.fieldLink RX8 7 "WeighingConverterModel" "z" "[I") (List.mem_of_getElem? (i := 3) rfl)) (fun _ h9 => h9) rfl dX8_weigh_19 ?_
      refine lv_iconst (v := 5) hx hb dX8_weigh_22 (by decide) ?_
      refine k_iald (k := 5) hx hb hK hP 1 0 rfl rfl (by omega) (by decide) dX8_weigh_23 ?_
      refine k_topi (y := nI z.2.2.2.2.2.1) rfl ?_
      refine lv_icmp_ge (tgt := 126) hx hb dX8_weigh_24 (by decide) (fun c_24 => ?_) (fun c_24 => ?_)
      · have c_24 : z.2.2.2.2.2.1 ≤ k := (nI_leI (a := z.2.2.2.2.2.1) (b := k) (by omega) (by omega)).mp c_24
        refine lv_iload hx hb dX8_weigh_126 (lv_at hl 1 rfl) ?_
        have e1 : v = (wgS z.2.2.2.2.2.2.2.1 leak off gl v0 z.2.2.2.2.2.1).1 := by rw [show z.2.2.2.2.2.1 = k from by omega, ← hw]
        have e2 : q = (wgS z.2.2.2.2.2.2.2.1 leak off gl v0 z.2.2.2.2.2.1).2.1 := by rw [show z.2.2.2.2.2.1 = k from by omega, ← hw]
        have e3 : cd = (wgS z.2.2.2.2.2.2.2.1 leak off gl v0 z.2.2.2.2.2.1).2.2 := by rw [show z.2.2.2.2.2.1 = k from by omega, ← hw]
        rw [e1, e2] at hP hD
        have hP9 := hP.sub (ws' := [(m0, .inr (8, [.ref m1, .ref m2, .int (nI sm), .ref m3, .int (nI ln), .int th, .ref m4, .int ((wgS z.2.2.2.2.2.2.2.1 leak off gl v0 z.2.2.2.2.2.1).1), .int ((wgS z.2.2.2.2.2.2.2.1 leak off gl v0 z.2.2.2.2.2.1).2.1), .ref m5, .int (nI sp), .ref m6, .int (nI tm)])), (m1, .inl (cI, 43, .inl (zArr z)))]) [0, 1] rfl
        have hD9 := hD.sub (ws' := [(m0, .inr (8, [.ref m1, .ref m2, .int (nI sm), .ref m3, .int (nI ln), .int th, .ref m4, .int ((wgS z.2.2.2.2.2.2.2.1 leak off gl v0 z.2.2.2.2.2.1).1), .int ((wgS z.2.2.2.2.2.2.2.1 leak off gl v0 z.2.2.2.2.2.1).2.1), .ref m5, .int (nI sp), .ref m6, .int (nI tm)])), (m1, .inl (cI, 43, .inl (zArr z)))]) [0, 1] (by decide) rfl
        exact kr_i (v := cd) hx hb hr hlocks hP9 hD9 hS e3 dX8_weigh_128
      · have c_24 : ¬ z.2.2.2.2.2.1 ≤ k := fun h => c_24 ((nI_leI (a := z.2.2.2.2.2.1) (b := k) (by omega) (by omega)).mpr h)
        refine lv_aload_n hx hb dX8_weigh_27 rfl (lv_at hl 2 rfl) ?_
        refine lv_aload_n hx hb dX8_weigh_28 rfl (lv_at hl 2 rfl) ?_
        refine va_get (D := D) (ci := 8) (v := .int v) (C := RX8) (T := TX8) (N := 13) hx hb hts inX8_weigh_8 hown hK hP 0 rfl rfl 7 (by decide) (hts (.fieldLink RX8 73 "WeighingConverterModel" "left" "I") (List.mem_of_getElem? (i := 1) rfl)) (fun _ h9 => h9) rfl dX8_weigh_29 ?_
        refine lv_iload_n hx hb dX8_weigh_32 rfl (lv_at hl 4 rfl) ?_
        refine ks_i0 (As := [.int v, .int leak]) (rest := [.ref m0]) ⟨hx, hb, hml, hown, hts⟩ (kX8_held l v leak) (va_cwS 2 hts gX8_weigh_X8_held rfl rfl rfl (by decide +kernel) ⟨Nat.le_of_ble_eq_true rfl, Nat.le_of_ble_eq_true rfl⟩) hP hS rfl hl.1 rfl (Nat.le_of_ble_eq_true rfl) dX8_weigh_33 ⟨Nat.zero_le _, Nat.zero_le _⟩ (fun H locs hP hS => ?_)
        refine va_put (D := D) (ci := 8) (v := .int (hTick v leak)) (ty := .int) (C := RX8) (T := TX8) (N := 13) hx hb hts inX8_weigh_8 tyX8 tyX8_ok nmX8 hown hK hP hD hS 0 rfl rfl 7 (by decide) (hts (.fieldLink RX8 73 "WeighingConverterModel" "left" "I") (List.mem_of_getElem? (i := 1) rfl)) (fun _ h9 => h9) rfl (by decide +kernel) rfl rfl (Nat.le_of_ble_eq_true rfl) dX8_weigh_36 (fun H locs hP hD hS => ?_)
        have hP : va_P D vwCl [(m0, .inr (8, [.ref m1, .ref m2, .int (nI sm), .ref m3, .int (nI ln), .int th, .ref m4, .int (hTick v leak), .int q, .ref m5, .int (nI sp), .ref m6, .int (nI tm)])), (m1, .inl (cI, 43, .inl (zArr z)))] H := hP
        have hD : va_D A [(m0, .inr (8, [.ref m1, .ref m2, .int (nI sm), .ref m3, .int (nI ln), .int th, .ref m4, .int (hTick v leak), .int q, .ref m5, .int (nI sp), .ref m6, .int (nI tm)])), (m1, .inl (cI, 43, .inl (zArr z)))] := hD
        refine lv_aload_n hx hb dX8_weigh_39 rfl (lv_at hl 2 rfl) ?_
        refine va_get (D := D) (ci := 8) (v := .int (hTick v leak)) (C := RX8) (T := TX8) (N := 13) hx hb hts inX8_weigh_8 hown hK hP 0 rfl rfl 7 (by decide) (hts (.fieldLink RX8 73 "WeighingConverterModel" "left" "I") (List.mem_of_getElem? (i := 1) rfl)) (fun _ h9 => h9) rfl dX8_weigh_40 ?_
        refine lv_iload_n hx hb dX8_weigh_43 rfl (lv_at hl 5 rfl) ?_
        refine lv_iadd hx hb dX8_weigh_44 ?_
        refine lv_bipush (v := 16) hx hb dX8_weigh_45 (by decide) ?_
        refine lv_iload hx hb dX8_weigh_47 (lv_at hl 1 rfl) ?_
        refine lv_aload_n hx hb dX8_weigh_49 rfl (lv_at hl 2 rfl) ?_
        refine va_get (D := D) (ci := 8) (v := .ref m1) (C := RX8) (T := TX8) (N := 13) hx hb hts inX8_weigh_8 hown hK hP 0 rfl rfl 0 (by decide) (hts (.fieldLink RX8 7 "WeighingConverterModel" "z" "[I") (List.mem_of_getElem? (i := 3) rfl)) (fun _ h9 => h9) rfl dX8_weigh_50 ?_
        refine lv_bipush (v := 7) hx hb dX8_weigh_53 (by decide) ?_
        refine lv_iload hx hb dX8_weigh_55 (lv_at hl 0 rfl) ?_
        refine lv_iadd hx hb dX8_weigh_57 ?_
        refine k_topi (y := nI (7 + k)) (nI_add 7 k) ?_
        refine k_iald (k := 7 + k) hx hb hK hP 1 0 rfl rfl (by omega) (by decide) dX8_weigh_58 ?_
        refine k_topi (y := z.2.2.2.2.2.2.2.1 k) (zArr_w (by omega)) ?_
        refine lv_iadd hx hb dX8_weigh_59 ?_
        refine lv_imul hx hb dX8_weigh_60 ?_
        refine lv_icmp_lt (tgt := 68) hx hb dX8_weigh_61 (by decide) (fun c_61 => ?_) (fun c_61 => ?_)
        · refine lv_iconst (v := 0) hx hb dX8_weigh_68 (by decide) ?_
          refine lv_istore (lv' := [(7, .int 0), (6, .int (nI k)), (5, .int cd), (0, .ref m0), (1, .int v0), (2, .int leak), (3, .int off), (4, .int gl)]) hx hb dX8_weigh_69 hl (by decide) rfl (fun ls hl => ?_)
          refine lv_iload hx hb dX8_weigh_71 (lv_at hl 0 rfl) ?_
          refine lv_iload hx hb dX8_weigh_73 (lv_at hl 7 rfl) ?_
          refine lv_iload hx hb dX8_weigh_75 (lv_at hl 1 rfl) ?_
          refine lv_ishr hx hb dX8_weigh_77 ?_
          refine lv_iconst (v := 1) hx hb dX8_weigh_78 (by decide) ?_
          refine lv_iand hx hb dX8_weigh_79 ?_
          refine lv_iconst (v := 1) hx hb dX8_weigh_80 (by decide) ?_
          refine lv_icmp_ne (tgt := 88) hx hb dX8_weigh_81 (by decide) (fun c_81 => ?_) (fun c_81 => ?_)
          · refine lv_iconst (v := 0) hx hb dX8_weigh_88 (by decide) ?_
            refine lv_icmp_eq (tgt := 120) hx hb dX8_weigh_89 (by decide) (fun _ => ?_) (fun h => absurd h (by decide))
            refine lv_iinc (v := nI (k + 1)) (lv' := [(6, .int (nI (k + 1))), (7, .int 0), (5, .int cd), (0, .ref m0), (1, .int v0), (2, .int leak), (3, .int off), (4, .int gl)]) hx hb dX8_weigh_120 hl (k := 1) rfl (by exact k_inc k) (by decide) rfl (fun ls hl => ?_)
            refine lv_goto (tgt := 16) hx hb dX8_weigh_123 (by decide) ?_
            exact ih16 (k + 1) (hTick v leak) q cd (by first | assumption | omega) (by rw [wgS, ← hw]; first | exact (wgM_a (kp := q) c_61 c_81 : _) | exact (wgM_b (kp := q) c_61 c_81 : _) | exact (wgM_c (kp := q) c_61 c_81 : _) | exact (wgM_d (kp := q) c_61 c_81 : _)) (by omega) _ _ (hP.sub [0, 1] rfl) (hD.sub [0, 1] (by decide) rfl) hS _ (lv_sub hl [0, 2, 3, 4, 5, 6, 7] rfl)
          · refine lv_iconst (v := 1) hx hb dX8_weigh_84 (by decide) ?_
            refine lv_goto (tgt := 89) hx hb dX8_weigh_85 (by decide) ?_
            refine lv_icmp_eq (tgt := 120) hx hb dX8_weigh_89 (by decide) (fun h => absurd h (by decide)) (fun _ => ?_)
            refine lv_iload hx hb dX8_weigh_92 (lv_at hl 2 rfl) ?_
            refine lv_aload_n hx hb dX8_weigh_94 rfl (lv_at hl 3 rfl) ?_
            refine va_get (D := D) (ci := 8) (v := .ref m1) (C := RX8) (T := TX8) (N := 13) hx hb hts inX8_weigh_8 hown hK hP 0 rfl rfl 0 (by decide) (hts (.fieldLink RX8 7 "WeighingConverterModel" "z" "[I") (List.mem_of_getElem? (i := 3) rfl)) (fun _ h9 => h9) rfl dX8_weigh_95 ?_
            refine lv_bipush (v := 7) hx hb dX8_weigh_98 (by decide) ?_
            refine lv_iload hx hb dX8_weigh_100 (lv_at hl 1 rfl) ?_
            refine lv_iadd hx hb dX8_weigh_102 ?_
            refine k_topi (y := nI (7 + k)) (nI_add 7 k) ?_
            refine k_iald (k := 7 + k) hx hb hK hP 1 0 rfl rfl (by omega) (by decide) dX8_weigh_103 ?_
            refine k_topi (y := z.2.2.2.2.2.2.2.1 k) (zArr_w (by omega)) ?_
            refine lv_iadd hx hb dX8_weigh_104 ?_
            refine lv_istore (lv' := [(5, .int (cd + (z.2.2.2.2.2.2.2.1 k))), (7, .int 0), (6, .int (nI k)), (0, .ref m0), (1, .int v0), (2, .int leak), (3, .int off), (4, .int gl)]) hx hb dX8_weigh_105 hl (by decide) rfl (fun ls hl => ?_)
            refine lv_aload_n hx hb dX8_weigh_107 rfl (lv_at hl 3 rfl) ?_
            refine lv_dup hx hb dX8_weigh_108 rfl ?_
            refine va_get (D := D) (ci := 8) (v := .int q) (C := RX8) (T := TX8) (N := 13) hx hb hts inX8_weigh_8 hown hK hP 0 rfl rfl 8 (by decide) (hts (.fieldLink RX8 76 "WeighingConverterModel" "kept" "I") (List.mem_of_getElem? (i := 2) rfl)) (fun _ h9 => h9) rfl dX8_weigh_109 ?_
            refine lv_iconst (v := 1) hx hb dX8_weigh_112 (by decide) ?_
            refine lv_iload hx hb dX8_weigh_113 (lv_at hl 2 rfl) ?_
            refine lv_ishl hx hb dX8_weigh_115 ?_
            refine lv_ior hx hb dX8_weigh_116 ?_
            refine va_put (D := D) (ci := 8) (v := .int (q ||| ((1 : Int32) <<< ((nI k) &&& 31)))) (ty := .int) (C := RX8) (T := TX8) (N := 13) hx hb hts inX8_weigh_8 tyX8 tyX8_ok nmX8 hown hK hP hD hS 0 rfl rfl 8 (by decide) (hts (.fieldLink RX8 76 "WeighingConverterModel" "kept" "I") (List.mem_of_getElem? (i := 2) rfl)) (fun _ h9 => h9) rfl (by decide +kernel) rfl rfl (Nat.le_of_ble_eq_true rfl) dX8_weigh_117 (fun H locs hP hD hS => ?_)
            have hP : va_P D vwCl [(m0, .inr (8, [.ref m1, .ref m2, .int (nI sm), .ref m3, .int (nI ln), .int th, .ref m4, .int (hTick v leak), .int (q ||| ((1 : Int32) <<< ((nI k) &&& 31))), .ref m5, .int (nI sp), .ref m6, .int (nI tm)])), (m1, .inl (cI, 43, .inl (zArr z)))] H := hP
            have hD : va_D A [(m0, .inr (8, [.ref m1, .ref m2, .int (nI sm), .ref m3, .int (nI ln), .int th, .ref m4, .int (hTick v leak), .int (q ||| ((1 : Int32) <<< ((nI k) &&& 31))), .ref m5, .int (nI sp), .ref m6, .int (nI tm)])), (m1, .inl (cI, 43, .inl (zArr z)))] := hD
            refine lv_iinc (v := nI (k + 1)) (lv' := [(6, .int (nI (k + 1))), (5, .int (cd + (z.2.2.2.2.2.2.2.1 k))), (7, .int 0), (0, .ref m0), (1, .int v0), (2, .int leak), (3, .int off), (4, .int gl)]) hx hb dX8_weigh_120 hl (k := 2) rfl (by exact k_inc k) (by decide) rfl (fun ls hl => ?_)
            refine lv_goto (tgt := 16) hx hb dX8_weigh_123 (by decide) ?_
            exact ih16 (k + 1) (hTick v leak) (q ||| ((1 : Int32) <<< ((nI k) &&& 31))) (cd + (z.2.2.2.2.2.2.2.1 k)) (by first | assumption | omega) (by rw [wgS, ← hw]; first | exact (wgM_a (kp := q) c_61 c_81 : _) | exact (wgM_b (kp := q) c_61 c_81 : _) | exact (wgM_c (kp := q) c_61 c_81 : _) | exact (wgM_d (kp := q) c_61 c_81 : _)) (by omega) _ _ (hP.sub [0, 1] rfl) (hD.sub [0, 1] (by decide) rfl) hS _ (lv_sub hl [0, 1, 3, 4, 5, 6, 7] rfl)
        · refine lv_iconst (v := 1) hx hb dX8_weigh_64 (by decide) ?_
          refine lv_goto (tgt := 69) hx hb dX8_weigh_65 (by decide) ?_
          refine lv_istore (lv' := [(7, .int 1), (6, .int (nI k)), (5, .int cd), (0, .ref m0), (1, .int v0), (2, .int leak), (3, .int off), (4, .int gl)]) hx hb dX8_weigh_69 hl (by decide) rfl (fun ls hl => ?_)
          refine lv_iload hx hb dX8_weigh_71 (lv_at hl 0 rfl) ?_
          refine lv_iload hx hb dX8_weigh_73 (lv_at hl 7 rfl) ?_
          refine lv_iload hx hb dX8_weigh_75 (lv_at hl 1 rfl) ?_
          refine lv_ishr hx hb dX8_weigh_77 ?_
          refine lv_iconst (v := 1) hx hb dX8_weigh_78 (by decide) ?_
          refine lv_iand hx hb dX8_weigh_79 ?_
          refine lv_iconst (v := 1) hx hb dX8_weigh_80 (by decide) ?_
          refine lv_icmp_ne (tgt := 88) hx hb dX8_weigh_81 (by decide) (fun c_81 => ?_) (fun c_81 => ?_)
          · refine lv_iconst (v := 0) hx hb dX8_weigh_88 (by decide) ?_
            refine lv_icmp_eq (tgt := 120) hx hb dX8_weigh_89 (by decide) (fun h => absurd h (by decide)) (fun _ => ?_)
            refine lv_iload hx hb dX8_weigh_92 (lv_at hl 2 rfl) ?_
            refine lv_aload_n hx hb dX8_weigh_94 rfl (lv_at hl 3 rfl) ?_
            refine va_get (D := D) (ci := 8) (v := .ref m1) (C := RX8) (T := TX8) (N := 13) hx hb hts inX8_weigh_8 hown hK hP 0 rfl rfl 0 (by decide) (hts (.fieldLink RX8 7 "WeighingConverterModel" "z" "[I") (List.mem_of_getElem? (i := 3) rfl)) (fun _ h9 => h9) rfl dX8_weigh_95 ?_
            refine lv_bipush (v := 7) hx hb dX8_weigh_98 (by decide) ?_
            refine lv_iload hx hb dX8_weigh_100 (lv_at hl 1 rfl) ?_
            refine lv_iadd hx hb dX8_weigh_102 ?_
            refine k_topi (y := nI (7 + k)) (nI_add 7 k) ?_
            refine k_iald (k := 7 + k) hx hb hK hP 1 0 rfl rfl (by omega) (by decide) dX8_weigh_103 ?_
            refine k_topi (y := z.2.2.2.2.2.2.2.1 k) (zArr_w (by omega)) ?_
            refine lv_iadd hx hb dX8_weigh_104 ?_
            refine lv_istore (lv' := [(5, .int (cd + (z.2.2.2.2.2.2.2.1 k))), (7, .int 1), (6, .int (nI k)), (0, .ref m0), (1, .int v0), (2, .int leak), (3, .int off), (4, .int gl)]) hx hb dX8_weigh_105 hl (by decide) rfl (fun ls hl => ?_)
            refine lv_aload_n hx hb dX8_weigh_107 rfl (lv_at hl 3 rfl) ?_
            refine lv_dup hx hb dX8_weigh_108 rfl ?_
            refine va_get (D := D) (ci := 8) (v := .int q) (C := RX8) (T := TX8) (N := 13) hx hb hts inX8_weigh_8 hown hK hP 0 rfl rfl 8 (by decide) (hts (.fieldLink RX8 76 "WeighingConverterModel" "kept" "I") (List.mem_of_getElem? (i := 2) rfl)) (fun _ h9 => h9) rfl dX8_weigh_109 ?_
            refine lv_iconst (v := 1) hx hb dX8_weigh_112 (by decide) ?_
            refine lv_iload hx hb dX8_weigh_113 (lv_at hl 2 rfl) ?_
            refine lv_ishl hx hb dX8_weigh_115 ?_
            refine lv_ior hx hb dX8_weigh_116 ?_
            refine va_put (D := D) (ci := 8) (v := .int (q ||| ((1 : Int32) <<< ((nI k) &&& 31)))) (ty := .int) (C := RX8) (T := TX8) (N := 13) hx hb hts inX8_weigh_8 tyX8 tyX8_ok nmX8 hown hK hP hD hS 0 rfl rfl 8 (by decide) (hts (.fieldLink RX8 76 "WeighingConverterModel" "kept" "I") (List.mem_of_getElem? (i := 2) rfl)) (fun _ h9 => h9) rfl (by decide +kernel) rfl rfl (Nat.le_of_ble_eq_true rfl) dX8_weigh_117 (fun H locs hP hD hS => ?_)
            have hP : va_P D vwCl [(m0, .inr (8, [.ref m1, .ref m2, .int (nI sm), .ref m3, .int (nI ln), .int th, .ref m4, .int (hTick v leak), .int (q ||| ((1 : Int32) <<< ((nI k) &&& 31))), .ref m5, .int (nI sp), .ref m6, .int (nI tm)])), (m1, .inl (cI, 43, .inl (zArr z)))] H := hP
            have hD : va_D A [(m0, .inr (8, [.ref m1, .ref m2, .int (nI sm), .ref m3, .int (nI ln), .int th, .ref m4, .int (hTick v leak), .int (q ||| ((1 : Int32) <<< ((nI k) &&& 31))), .ref m5, .int (nI sp), .ref m6, .int (nI tm)])), (m1, .inl (cI, 43, .inl (zArr z)))] := hD
            refine lv_iinc (v := nI (k + 1)) (lv' := [(6, .int (nI (k + 1))), (5, .int (cd + (z.2.2.2.2.2.2.2.1 k))), (7, .int 1), (0, .ref m0), (1, .int v0), (2, .int leak), (3, .int off), (4, .int gl)]) hx hb dX8_weigh_120 hl (k := 2) rfl (by exact k_inc k) (by decide) rfl (fun ls hl => ?_)
            refine lv_goto (tgt := 16) hx hb dX8_weigh_123 (by decide) ?_
            exact ih16 (k + 1) (hTick v leak) (q ||| ((1 : Int32) <<< ((nI k) &&& 31))) (cd + (z.2.2.2.2.2.2.2.1 k)) (by first | assumption | omega) (by rw [wgS, ← hw]; first | exact (wgM_a (kp := q) c_61 c_81 : _) | exact (wgM_b (kp := q) c_61 c_81 : _) | exact (wgM_c (kp := q) c_61 c_81 : _) | exact (wgM_d (kp := q) c_61 c_81 : _)) (by omega) _ _ (hP.sub [0, 1] rfl) (hD.sub [0, 1] (by decide) rfl) hS _ (lv_sub hl [0, 1, 3, 4, 5, 6, 7] rfl)
          · refine lv_iconst (v := 1) hx hb dX8_weigh_84 (by decide) ?_
            refine lv_goto (tgt := 89) hx hb dX8_weigh_85 (by decide) ?_
            refine lv_icmp_eq (tgt := 120) hx hb dX8_weigh_89 (by decide) (fun _ => ?_) (fun h => absurd h (by decide))
            refine lv_iinc (v := nI (k + 1)) (lv' := [(6, .int (nI (k + 1))), (7, .int 1), (5, .int cd), (0, .ref m0), (1, .int v0), (2, .int leak), (3, .int off), (4, .int gl)]) hx hb dX8_weigh_120 hl (k := 1) rfl (by exact k_inc k) (by decide) rfl (fun ls hl => ?_)
            refine lv_goto (tgt := 16) hx hb dX8_weigh_123 (by decide) ?_
            exact ih16 (k + 1) (hTick v leak) q cd (by first | assumption | omega) (by rw [wgS, ← hw]; first | exact (wgM_a (kp := q) c_61 c_81 : _) | exact (wgM_b (kp := q) c_61 c_81 : _) | exact (wgM_c (kp := q) c_61 c_81 : _) | exact (wgM_d (kp := q) c_61 c_81 : _)) (by omega) _ _ (hP.sub [0, 1] rfl) (hD.sub [0, 1] (by decide) rfl) hS _ (lv_sub hl [0, 2, 3, 4, 5, 6, 7] rfl)
  exact J16 (z.2.2.2.2.2.1 - 0 + 1) 0 v0 0 0 (by first | assumption | omega) rfl (Nat.lt_succ_self _) _ _ (hP.sub [0, 1] rfl) (hD.sub [0, 1] (by decide) rfl) hS _ (lv_sub hl [0, 1, 2, 3, 4, 5, 6] rfl)

abbrev rmkX8_idealOf : Room := { frames := 2, cells := 0, slots := 0, locals := 48 }
set_option maxHeartbeats 4000000 in
set_option maxRecDepth 100000 in
theorem kX8_idealOf (l : Launch) (D : va_G) (sz : Nat) (cI : ClassId) (cC : ClassId) (cJ : ClassId) (cZ : ClassId) (cQ : ClassId) (m0 : Nat) (m1 : Nat) (m2 : Nat) (m3 : Nat) (m4 : Nat) (m5 : Nat) (m6 : Nat) (sm : Nat) (ln : Nat) (sp : Nat) (tm : Nat) (th : Int32) (lf : Int32) (kp : Int32) (z : StV) (v : Int32) (hwc : z.2.2.2.2.2.1 ≤ 12) : Met l yX8_idealOf wsX8_idealOf rmkX8_idealOf (va_Pc [.ref m0, .int v] (kPre D sz [(m0, .inr (8, [.ref m1, .ref m2, .int (nI sm), .ref m3, .int (nI ln), .int th, .ref m4, .int lf, .int kp, .ref m5, .int (nI sp), .ref m6, .int (nI tm)])), (m1, .inl (cI, 43, .inl (zArr z)))] (kT cI cC cJ cZ cQ))) (kQi D ((wgS z.2.2.2.2.2.2.2.1 0 0 0 v z.2.2.2.2.2.1).2.2) [(m0, .inr (8, [.ref m1, .ref m2, .int (nI sm), .ref m3, .int (nI ln), .int th, .ref m4, .int ((wgS z.2.2.2.2.2.2.2.1 0 0 0 v z.2.2.2.2.2.1).1), .int ((wgS z.2.2.2.2.2.2.2.1 0 0 0 v z.2.2.2.2.2.1).2.1), .ref m5, .int (nI sp), .ref m6, .int (nI tm)])), (m1, .inl (cI, 43, .inl (zArr z)))] (va_A [(m0, .inr (8, [.ref m1, .ref m2, .int (nI sm), .ref m3, .int (nI ln), .int th, .ref m4, .int lf, .int kp, .ref m5, .int (nI sp), .ref m6, .int (nI tm)])), (m1, .inl (cI, 43, .inl (zArr z)))] sz)) 0 0 (va_A [(m0, .inr (8, [.ref m1, .ref m2, .int (nI sm), .ref m3, .int (nI ln), .int th, .ref m4, .int lf, .int kp, .ref m5, .int (nI sp), .ref m6, .int (nI tm)])), (m1, .inl (cI, 43, .inl (zArr z)))] sz) := by
  refine k_met (Qf := kQi D ((wgS z.2.2.2.2.2.2.2.1 0 0 0 v z.2.2.2.2.2.1).2.2) [(m0, .inr (8, [.ref m1, .ref m2, .int (nI sm), .ref m3, .int (nI ln), .int th, .ref m4, .int ((wgS z.2.2.2.2.2.2.2.1 0 0 0 v z.2.2.2.2.2.1).1), .int ((wgS z.2.2.2.2.2.2.2.1 0 0 0 v z.2.2.2.2.2.1).2.1), .ref m5, .int (nI sp), .ref m6, .int (nI tm)])), (m1, .inl (cI, 43, .inl (zArr z)))]) (cc := cX8_idealOf) (maxL := 2) (ret := (some .int)) (own := RX8) (by decide) rfl (Nat.le_of_ble_eq_true rfl) rfl ?_
  intro p e s m args below meth c ls A H locs hx hb hr hts hown hlocks hml hin hsz hP hK hD hA hS hN hl
  have hl : lv_has ls 2 [(0, .ref m0), (1, .int v)] := hl
  refine lv_aload_n hx hb dX8_idealOf_0 rfl (lv_at hl 0 rfl) ?_
  refine lv_iload_n hx hb dX8_idealOf_1 rfl (lv_at hl 1 rfl) ?_
  refine lv_iconst (v := 0) hx hb dX8_idealOf_2 (by decide) ?_
  refine lv_iconst (v := 0) hx hb dX8_idealOf_3 (by decide) ?_
  refine lv_iconst (v := 0) hx hb dX8_idealOf_4 (by decide) ?_
  refine kv_i (As := [.int v, .int 0, .int 0, .int 0]) (rest := []) (wr := []) ⟨hx, hb, hml, hown, hts⟩ (kX8_weigh l D H.size cI cC cJ cZ cQ m0 m1 m2 m3 m4 m5 m6 sm ln sp tm th lf kp z v 0 0 0 (by first | assumption | omega)) (cwV 4 hts gX8_idealOf_X8_weigh rfl rfl rfl (by decide +kernel) ⟨Nat.le_of_ble_eq_true rfl, Nat.le_of_ble_eq_true rfl⟩) hP hD hK hS hA hN [0, 1] [] rfl rfl (by decide) (by decide) (by decide) 0 8 rfl rfl rfl rfl hl.1 rfl (Nat.le_of_ble_eq_true rfl) dX8_idealOf_5 ⟨Nat.zero_le _, Nat.zero_le _⟩ (fun H locs hP hD hS => ?_)
  have hP : va_P D vwCl [(m0, .inr (8, [.ref m1, .ref m2, .int (nI sm), .ref m3, .int (nI ln), .int th, .ref m4, .int ((wgS z.2.2.2.2.2.2.2.1 0 0 0 v z.2.2.2.2.2.1).1), .int ((wgS z.2.2.2.2.2.2.2.1 0 0 0 v z.2.2.2.2.2.1).2.1), .ref m5, .int (nI sp), .ref m6, .int (nI tm)])), (m1, .inl (cI, 43, .inl (zArr z)))] H := hP
  have hD : va_D A [(m0, .inr (8, [.ref m1, .ref m2, .int (nI sm), .ref m3, .int (nI ln), .int th, .ref m4, .int ((wgS z.2.2.2.2.2.2.2.1 0 0 0 v z.2.2.2.2.2.1).1), .int ((wgS z.2.2.2.2.2.2.2.1 0 0 0 v z.2.2.2.2.2.1).2.1), .ref m5, .int (nI sp), .ref m6, .int (nI tm)])), (m1, .inl (cI, 43, .inl (zArr z)))] := hD
  have hP9 := hP.sub (ws' := [(m0, .inr (8, [.ref m1, .ref m2, .int (nI sm), .ref m3, .int (nI ln), .int th, .ref m4, .int ((wgS z.2.2.2.2.2.2.2.1 0 0 0 v z.2.2.2.2.2.1).1), .int ((wgS z.2.2.2.2.2.2.2.1 0 0 0 v z.2.2.2.2.2.1).2.1), .ref m5, .int (nI sp), .ref m6, .int (nI tm)])), (m1, .inl (cI, 43, .inl (zArr z)))]) [0, 1] rfl
  have hD9 := hD.sub (ws' := [(m0, .inr (8, [.ref m1, .ref m2, .int (nI sm), .ref m3, .int (nI ln), .int th, .ref m4, .int ((wgS z.2.2.2.2.2.2.2.1 0 0 0 v z.2.2.2.2.2.1).1), .int ((wgS z.2.2.2.2.2.2.2.1 0 0 0 v z.2.2.2.2.2.1).2.1), .ref m5, .int (nI sp), .ref m6, .int (nI tm)])), (m1, .inl (cI, 43, .inl (zArr z)))]) [0, 1] (by decide) rfl
  exact kr_i (v := (wgS z.2.2.2.2.2.2.2.1 0 0 0 v z.2.2.2.2.2.1).2.2) hx hb hr hlocks hP9 hD9 hS rfl dX8_idealOf_8

theorem inX8_next_8 : ∀ w ∈ wsX80, w ∈ wsX8_next := fun _ h => List.mem_cons_of_mem _ (List.mem_append_right _ h)
abbrev rmkX8_next : Room := { frames := 2, cells := 0, slots := 0, locals := 48 }
set_option maxHeartbeats 4000000 in
set_option maxRecDepth 100000 in
theorem kX8_next (l : Launch) (D : va_G) (sz : Nat) (cI : ClassId) (cC : ClassId) (cJ : ClassId) (cZ : ClassId) (cQ : ClassId) (m0 : Nat) (m1 : Nat) (m2 : Nat) (m3 : Nat) (m4 : Nat) (m5 : Nat) (m6 : Nat) (sm : Nat) (ln : Nat) (sp : Nat) (tm : Nat) (th : Int32) (lf : Int32) (kp : Int32) (z : StV) (hwc : z.2.2.2.2.2.1 ≤ 12) : Met l yX8_next wsX8_next rmkX8_next (va_Pc [.ref m0] (kPre D sz [(m0, .inr (8, [.ref m1, .ref m2, .int (nI sm), .ref m3, .int (nI ln), .int th, .ref m4, .int lf, .int kp, .ref m5, .int (nI sp), .ref m6, .int (nI tm)])), (m1, .inl (cI, 43, .inl (zArr z)))] (kT cI cC cJ cZ cQ))) (kQi D ((wgS z.2.2.2.2.2.2.2.1 z.2.2.1 z.2.2.2.1 z.2.2.2.2.1 z.1 z.2.2.2.2.2.1).2.2) [(m0, .inr (8, [.ref m1, .ref m2, .int (nI sm), .ref m3, .int (nI ln), .int th, .ref m4, .int ((wgS z.2.2.2.2.2.2.2.1 z.2.2.1 z.2.2.2.1 z.2.2.2.2.1 z.1 z.2.2.2.2.2.1).1), .int ((wgS z.2.2.2.2.2.2.2.1 z.2.2.1 z.2.2.2.1 z.2.2.2.2.1 z.1 z.2.2.2.2.2.1).2.1), .ref m5, .int (nI sp), .ref m6, .int (nI tm)])), (m1, .inl (cI, 43, .inl (zArr z)))] (va_A [(m0, .inr (8, [.ref m1, .ref m2, .int (nI sm), .ref m3, .int (nI ln), .int th, .ref m4, .int lf, .int kp, .ref m5, .int (nI sp), .ref m6, .int (nI tm)])), (m1, .inl (cI, 43, .inl (zArr z)))] sz)) 0 0 (va_A [(m0, .inr (8, [.ref m1, .ref m2, .int (nI sm), .ref m3, .int (nI ln), .int th, .ref m4, .int lf, .int kp, .ref m5, .int (nI sp), .ref m6, .int (nI tm)])), (m1, .inl (cI, 43, .inl (zArr z)))] sz) := by
  refine k_met (Qf := kQi D ((wgS z.2.2.2.2.2.2.2.1 z.2.2.1 z.2.2.2.1 z.2.2.2.2.1 z.1 z.2.2.2.2.2.1).2.2) [(m0, .inr (8, [.ref m1, .ref m2, .int (nI sm), .ref m3, .int (nI ln), .int th, .ref m4, .int ((wgS z.2.2.2.2.2.2.2.1 z.2.2.1 z.2.2.2.1 z.2.2.2.2.1 z.1 z.2.2.2.2.2.1).1), .int ((wgS z.2.2.2.2.2.2.2.1 z.2.2.1 z.2.2.2.1 z.2.2.2.2.1 z.1 z.2.2.2.2.2.1).2.1), .ref m5, .int (nI sp), .ref m6, .int (nI tm)])), (m1, .inl (cI, 43, .inl (zArr z)))]) (cc := cX8_next) (maxL := 1) (ret := (some .int)) (own := RX8) (by decide) rfl (Nat.le_of_ble_eq_true rfl) rfl ?_
  intro p e s m args below meth c ls A H locs hx hb hr hts hown hlocks hml hin hsz hP hK hD hA hS hN hl
  have hl : lv_has ls 1 [(0, .ref m0)] := hl
  refine lv_aload_n hx hb dX8_next_0 rfl (lv_at hl 0 rfl) ?_
  refine lv_aload_n hx hb dX8_next_1 rfl (lv_at hl 0 rfl) ?_
  refine va_get (D := D) (ci := 8) (v := .ref m1) (C := RX8) (T := TX8) (N := 13) hx hb hts inX8_next_8 hown hK hP 0 rfl rfl 0 (by decide) (hts (.fieldLink RX8 7 "WeighingConverterModel" "z" "[I") (List.mem_of_getElem? (i := 1) rfl)) (fun _ h9 => h9) rfl dX8_next_2 ?_
  refine lv_iconst (v := 0) hx hb dX8_next_5 (by decide) ?_
  refine k_iald (k := 0) hx hb hK hP 1 0 rfl rfl (by omega) (by decide) dX8_next_6 ?_
  refine k_topi (y := z.1) rfl ?_
  refine lv_aload_n hx hb dX8_next_7 rfl (lv_at hl 0 rfl) ?_
  refine va_get (D := D) (ci := 8) (v := .ref m1) (C := RX8) (T := TX8) (N := 13) hx hb hts inX8_next_8 hown hK hP 0 rfl rfl 0 (by decide) (hts (.fieldLink RX8 7 "WeighingConverterModel" "z" "[I") (List.mem_of_getElem? (i := 1) rfl)) (fun _ h9 => h9) rfl dX8_next_8 ?_
  refine lv_iconst (v := 2) hx hb dX8_next_11 (by decide) ?_
  refine k_iald (k := 2) hx hb hK hP 1 0 rfl rfl (by omega) (by decide) dX8_next_12 ?_
  refine k_topi (y := z.2.2.1) rfl ?_
  refine lv_aload_n hx hb dX8_next_13 rfl (lv_at hl 0 rfl) ?_
  refine va_get (D := D) (ci := 8) (v := .ref m1) (C := RX8) (T := TX8) (N := 13) hx hb hts inX8_next_8 hown hK hP 0 rfl rfl 0 (by decide) (hts (.fieldLink RX8 7 "WeighingConverterModel" "z" "[I") (List.mem_of_getElem? (i := 1) rfl)) (fun _ h9 => h9) rfl dX8_next_14 ?_
  refine lv_iconst (v := 3) hx hb dX8_next_17 (by decide) ?_
  refine k_iald (k := 3) hx hb hK hP 1 0 rfl rfl (by omega) (by decide) dX8_next_18 ?_
  refine k_topi (y := z.2.2.2.1) rfl ?_
  refine lv_aload_n hx hb dX8_next_19 rfl (lv_at hl 0 rfl) ?_
  refine va_get (D := D) (ci := 8) (v := .ref m1) (C := RX8) (T := TX8) (N := 13) hx hb hts inX8_next_8 hown hK hP 0 rfl rfl 0 (by decide) (hts (.fieldLink RX8 7 "WeighingConverterModel" "z" "[I") (List.mem_of_getElem? (i := 1) rfl)) (fun _ h9 => h9) rfl dX8_next_20 ?_
  refine lv_iconst (v := 4) hx hb dX8_next_23 (by decide) ?_
  refine k_iald (k := 4) hx hb hK hP 1 0 rfl rfl (by omega) (by decide) dX8_next_24 ?_
  refine k_topi (y := z.2.2.2.2.1) rfl ?_
  refine kv_i (As := [.int z.1, .int z.2.2.1, .int z.2.2.2.1, .int z.2.2.2.2.1]) (rest := []) (wr := []) ⟨hx, hb, hml, hown, hts⟩ (kX8_weigh l D H.size cI cC cJ cZ cQ m0 m1 m2 m3 m4 m5 m6 sm ln sp tm th lf kp z z.1 z.2.2.1 z.2.2.2.1 z.2.2.2.2.1 (by first | assumption | omega)) (cwV 4 hts gX8_next_X8_weigh rfl rfl rfl (by decide +kernel) ⟨Nat.le_of_ble_eq_true rfl, Nat.le_of_ble_eq_true rfl⟩) hP hD hK hS hA hN [0, 1] [] rfl rfl (by decide) (by decide) (by decide) 0 8 rfl rfl rfl rfl hl.1 rfl (Nat.le_of_ble_eq_true rfl) dX8_next_25 ⟨Nat.zero_le _, Nat.zero_le _⟩ (fun H locs hP hD hS => ?_)
  have hP : va_P D vwCl [(m0, .inr (8, [.ref m1, .ref m2, .int (nI sm), .ref m3, .int (nI ln), .int th, .ref m4, .int ((wgS z.2.2.2.2.2.2.2.1 z.2.2.1 z.2.2.2.1 z.2.2.2.2.1 z.1 z.2.2.2.2.2.1).1), .int ((wgS z.2.2.2.2.2.2.2.1 z.2.2.1 z.2.2.2.1 z.2.2.2.2.1 z.1 z.2.2.2.2.2.1).2.1), .ref m5, .int (nI sp), .ref m6, .int (nI tm)])), (m1, .inl (cI, 43, .inl (zArr z)))] H := hP
  have hD : va_D A [(m0, .inr (8, [.ref m1, .ref m2, .int (nI sm), .ref m3, .int (nI ln), .int th, .ref m4, .int ((wgS z.2.2.2.2.2.2.2.1 z.2.2.1 z.2.2.2.1 z.2.2.2.2.1 z.1 z.2.2.2.2.2.1).1), .int ((wgS z.2.2.2.2.2.2.2.1 z.2.2.1 z.2.2.2.1 z.2.2.2.2.1 z.1 z.2.2.2.2.2.1).2.1), .ref m5, .int (nI sp), .ref m6, .int (nI tm)])), (m1, .inl (cI, 43, .inl (zArr z)))] := hD
  have hP9 := hP.sub (ws' := [(m0, .inr (8, [.ref m1, .ref m2, .int (nI sm), .ref m3, .int (nI ln), .int th, .ref m4, .int ((wgS z.2.2.2.2.2.2.2.1 z.2.2.1 z.2.2.2.1 z.2.2.2.2.1 z.1 z.2.2.2.2.2.1).1), .int ((wgS z.2.2.2.2.2.2.2.1 z.2.2.1 z.2.2.2.1 z.2.2.2.2.1 z.1 z.2.2.2.2.2.1).2.1), .ref m5, .int (nI sp), .ref m6, .int (nI tm)])), (m1, .inl (cI, 43, .inl (zArr z)))]) [0, 1] rfl
  have hD9 := hD.sub (ws' := [(m0, .inr (8, [.ref m1, .ref m2, .int (nI sm), .ref m3, .int (nI ln), .int th, .ref m4, .int ((wgS z.2.2.2.2.2.2.2.1 z.2.2.1 z.2.2.2.1 z.2.2.2.2.1 z.1 z.2.2.2.2.2.1).1), .int ((wgS z.2.2.2.2.2.2.2.1 z.2.2.1 z.2.2.2.1 z.2.2.2.2.1 z.1 z.2.2.2.2.2.1).2.1), .ref m5, .int (nI sp), .ref m6, .int (nI tm)])), (m1, .inl (cI, 43, .inl (zArr z)))]) [0, 1] (by decide) rfl
  exact kr_i (v := (wgS z.2.2.2.2.2.2.2.1 z.2.2.1 z.2.2.2.1 z.2.2.2.2.1 z.1 z.2.2.2.2.2.1).2.2) hx hb hr hlocks hP9 hD9 hS rfl dX8_next_28

theorem inX8_nextCode_8 : ∀ w ∈ wsX80, w ∈ wsX8_nextCode := fun _ h => List.mem_cons_of_mem _ (List.mem_append_right _ h)
abbrev rmkX8_nextCode : Room := { frames := 3, cells := 0, slots := 0, locals := 68 }
set_option maxHeartbeats 4000000 in
set_option maxRecDepth 100000 in
theorem kX8_nextCode (l : Launch) (D : va_G) (sz : Nat) (cI : ClassId) (cC : ClassId) (cJ : ClassId) (cZ : ClassId) (cQ : ClassId) (m0 : Nat) (m1 : Nat) (m2 : Nat) (m3 : Nat) (m4 : Nat) (m5 : Nat) (m6 : Nat) (sm : Nat) (ln : Nat) (sp : Nat) (tm : Nat) (th : Int32) (lf : Int32) (kp : Int32) (z : StV) (hwc : z.2.2.2.2.2.1 ≤ 12) : Met l yX8_nextCode wsX8_nextCode rmkX8_nextCode (va_Pc [.ref m0] (kPre D sz [(m0, .inr (8, [.ref m1, .ref m2, .int (nI sm), .ref m3, .int (nI ln), .int th, .ref m4, .int lf, .int kp, .ref m5, .int (nI sp), .ref m6, .int (nI tm)])), (m1, .inl (cI, 43, .inl (zArr z)))] (kT cI cC cJ cZ cQ))) (kQi D ((wgS z.2.2.2.2.2.2.2.1 z.2.2.1 z.2.2.2.1 z.2.2.2.2.1 z.1 z.2.2.2.2.2.1).2.2) [(m0, .inr (8, [.ref m1, .ref m2, .int (nI sm), .ref m3, .int (nI ln), .int 0, .ref m4, .int ((wgS z.2.2.2.2.2.2.2.1 z.2.2.1 z.2.2.2.1 z.2.2.2.2.1 z.1 z.2.2.2.2.2.1).1), .int ((wgS z.2.2.2.2.2.2.2.1 z.2.2.1 z.2.2.2.1 z.2.2.2.2.1 z.1 z.2.2.2.2.2.1).2.1), .ref m5, .int (nI sp), .ref m6, .int (nI tm)])), (m1, .inl (cI, 43, .inl (zArr z)))] (va_A [(m0, .inr (8, [.ref m1, .ref m2, .int (nI sm), .ref m3, .int (nI ln), .int th, .ref m4, .int lf, .int kp, .ref m5, .int (nI sp), .ref m6, .int (nI tm)])), (m1, .inl (cI, 43, .inl (zArr z)))] sz)) 0 0 (va_A [(m0, .inr (8, [.ref m1, .ref m2, .int (nI sm), .ref m3, .int (nI ln), .int th, .ref m4, .int lf, .int kp, .ref m5, .int (nI sp), .ref m6, .int (nI tm)])), (m1, .inl (cI, 43, .inl (zArr z)))] sz) := by
  refine k_met (Qf := kQi D ((wgS z.2.2.2.2.2.2.2.1 z.2.2.1 z.2.2.2.1 z.2.2.2.2.1 z.1 z.2.2.2.2.2.1).2.2) [(m0, .inr (8, [.ref m1, .ref m2, .int (nI sm), .ref m3, .int (nI ln), .int 0, .ref m4, .int ((wgS z.2.2.2.2.2.2.2.1 z.2.2.1 z.2.2.2.1 z.2.2.2.2.1 z.1 z.2.2.2.2.2.1).1), .int ((wgS z.2.2.2.2.2.2.2.1 z.2.2.1 z.2.2.2.1 z.2.2.2.2.1 z.1 z.2.2.2.2.2.1).2.1), .ref m5, .int (nI sp), .ref m6, .int (nI tm)])), (m1, .inl (cI, 43, .inl (zArr z)))]) (cc := cX8_nextCode) (maxL := 1) (ret := (some .int)) (own := RX8) (by decide) rfl (Nat.le_of_ble_eq_true rfl) rfl ?_
  intro p e s m args below meth c ls A H locs hx hb hr hts hown hlocks hml hin hsz hP hK hD hA hS hN hl
  have hl : lv_has ls 1 [(0, .ref m0)] := hl
  refine lv_aload_n hx hb dX8_nextCode_0 rfl (lv_at hl 0 rfl) ?_
  refine lv_iconst (v := 0) hx hb dX8_nextCode_1 (by decide) ?_
  refine va_put (D := D) (ci := 8) (v := .int 0) (ty := .int) (C := RX8) (T := TX8) (N := 13) hx hb hts inX8_nextCode_8 tyX8 tyX8_ok nmX8 hown hK hP hD hS 0 rfl rfl 5 (by decide) (hts (.fieldLink RX8 29 "WeighingConverterModel" "thrown" "I") (List.mem_of_getElem? (i := 1) rfl)) (fun _ h9 => h9) rfl (by decide +kernel) rfl rfl (Nat.le_of_ble_eq_true rfl) dX8_nextCode_2 (fun H locs hP hD hS => ?_)
  have hP : va_P D vwCl [(m0, .inr (8, [.ref m1, .ref m2, .int (nI sm), .ref m3, .int (nI ln), .int 0, .ref m4, .int lf, .int kp, .ref m5, .int (nI sp), .ref m6, .int (nI tm)])), (m1, .inl (cI, 43, .inl (zArr z)))] H := hP
  have hD : va_D A [(m0, .inr (8, [.ref m1, .ref m2, .int (nI sm), .ref m3, .int (nI ln), .int 0, .ref m4, .int lf, .int kp, .ref m5, .int (nI sp), .ref m6, .int (nI tm)])), (m1, .inl (cI, 43, .inl (zArr z)))] := hD
  refine lv_aload_n hx hb dX8_nextCode_5 rfl (lv_at hl 0 rfl) ?_
  refine kv_i (As := []) (rest := []) (wr := []) ⟨hx, hb, hml, hown, hts⟩ (kX8_next l D H.size cI cC cJ cZ cQ m0 m1 m2 m3 m4 m5 m6 sm ln sp tm 0 lf kp z (by first | assumption | omega)) (cwV 0 hts gX8_nextCode_X8_next rfl rfl rfl (by decide +kernel) ⟨Nat.le_of_ble_eq_true rfl, Nat.le_of_ble_eq_true rfl⟩) hP hD hK hS hA hN [0, 1] [] rfl rfl (by decide) (by decide) (by decide) 0 8 rfl rfl rfl rfl hl.1 rfl (Nat.le_of_ble_eq_true rfl) dX8_nextCode_6 ⟨Nat.zero_le _, Nat.zero_le _⟩ (fun H locs hP hD hS => ?_)
  have hP : va_P D vwCl [(m0, .inr (8, [.ref m1, .ref m2, .int (nI sm), .ref m3, .int (nI ln), .int 0, .ref m4, .int ((wgS z.2.2.2.2.2.2.2.1 z.2.2.1 z.2.2.2.1 z.2.2.2.2.1 z.1 z.2.2.2.2.2.1).1), .int ((wgS z.2.2.2.2.2.2.2.1 z.2.2.1 z.2.2.2.1 z.2.2.2.2.1 z.1 z.2.2.2.2.2.1).2.1), .ref m5, .int (nI sp), .ref m6, .int (nI tm)])), (m1, .inl (cI, 43, .inl (zArr z)))] H := hP
  have hD : va_D A [(m0, .inr (8, [.ref m1, .ref m2, .int (nI sm), .ref m3, .int (nI ln), .int 0, .ref m4, .int ((wgS z.2.2.2.2.2.2.2.1 z.2.2.1 z.2.2.2.1 z.2.2.2.2.1 z.1 z.2.2.2.2.2.1).1), .int ((wgS z.2.2.2.2.2.2.2.1 z.2.2.1 z.2.2.2.1 z.2.2.2.2.1 z.1 z.2.2.2.2.2.1).2.1), .ref m5, .int (nI sp), .ref m6, .int (nI tm)])), (m1, .inl (cI, 43, .inl (zArr z)))] := hD
  have hP9 := hP.sub (ws' := [(m0, .inr (8, [.ref m1, .ref m2, .int (nI sm), .ref m3, .int (nI ln), .int 0, .ref m4, .int ((wgS z.2.2.2.2.2.2.2.1 z.2.2.1 z.2.2.2.1 z.2.2.2.2.1 z.1 z.2.2.2.2.2.1).1), .int ((wgS z.2.2.2.2.2.2.2.1 z.2.2.1 z.2.2.2.1 z.2.2.2.2.1 z.1 z.2.2.2.2.2.1).2.1), .ref m5, .int (nI sp), .ref m6, .int (nI tm)])), (m1, .inl (cI, 43, .inl (zArr z)))]) [0, 1] rfl
  have hD9 := hD.sub (ws' := [(m0, .inr (8, [.ref m1, .ref m2, .int (nI sm), .ref m3, .int (nI ln), .int 0, .ref m4, .int ((wgS z.2.2.2.2.2.2.2.1 z.2.2.1 z.2.2.2.1 z.2.2.2.2.1 z.1 z.2.2.2.2.2.1).1), .int ((wgS z.2.2.2.2.2.2.2.1 z.2.2.1 z.2.2.2.1 z.2.2.2.2.1 z.1 z.2.2.2.2.2.1).2.1), .ref m5, .int (nI sp), .ref m6, .int (nI tm)])), (m1, .inl (cI, 43, .inl (zArr z)))]) [0, 1] (by decide) rfl
  exact kr_i (v := (wgS z.2.2.2.2.2.2.2.1 z.2.2.1 z.2.2.2.1 z.2.2.2.2.1 z.1 z.2.2.2.2.2.1).2.2) hx hb hr hlocks hP9 hD9 hS rfl dX8_nextCode_9

abbrev rmkX8_mendedBy : Room := { frames := 2, cells := 0, slots := 0, locals := 48 }
set_option maxHeartbeats 4000000 in
set_option maxRecDepth 100000 in
theorem kX8_mendedBy (l : Launch) (D : va_G) (sz : Nat) (cI : ClassId) (cC : ClassId) (cJ : ClassId) (cZ : ClassId) (cQ : ClassId) (m0 : Nat) (m1 : Nat) (m2 : Nat) (m3 : Nat) (m4 : Nat) (m5 : Nat) (m6 : Nat) (sm : Nat) (ln : Nat) (sp : Nat) (tm : Nat) (th : Int32) (lf : Int32) (kp : Int32) (z : StV) (i : Nat) (hwc : z.2.2.2.2.2.1 ≤ 12) : Met l yX8_mendedBy wsX8_mendedBy rmkX8_mendedBy (va_Pc [.ref m0, .int (nI i)] (kPre D sz [(m0, .inr (8, [.ref m1, .ref m2, .int (nI sm), .ref m3, .int (nI ln), .int th, .ref m4, .int lf, .int kp, .ref m5, .int (nI sp), .ref m6, .int (nI tm)])), (m1, .inl (cI, 43, .inl (zArr z)))] (kT cI cC cJ cZ cQ))) (kQix D (nI (mdC z.2.2.2.2.2.2.2.1 z.2.2.2.2.2.1 i 256)) (fun (u9 : Int32 × Int32) => [(m0, .inr (8, [.ref m1, .ref m2, .int (nI sm), .ref m3, .int (nI ln), .int th, .ref m4, .int u9.1, .int u9.2, .ref m5, .int (nI sp), .ref m6, .int (nI tm)])), (m1, .inl (cI, 43, .inl (zArr z)))]) (va_A [(m0, .inr (8, [.ref m1, .ref m2, .int (nI sm), .ref m3, .int (nI ln), .int th, .ref m4, .int lf, .int kp, .ref m5, .int (nI sp), .ref m6, .int (nI tm)])), (m1, .inl (cI, 43, .inl (zArr z)))] sz)) 0 0 (va_A [(m0, .inr (8, [.ref m1, .ref m2, .int (nI sm), .ref m3, .int (nI ln), .int th, .ref m4, .int lf, .int kp, .ref m5, .int (nI sp), .ref m6, .int (nI tm)])), (m1, .inl (cI, 43, .inl (zArr z)))] sz) := by
  refine k_met (Qf := kQix D (nI (mdC z.2.2.2.2.2.2.2.1 z.2.2.2.2.2.1 i 256)) (fun (u9 : Int32 × Int32) => [(m0, .inr (8, [.ref m1, .ref m2, .int (nI sm), .ref m3, .int (nI ln), .int th, .ref m4, .int u9.1, .int u9.2, .ref m5, .int (nI sp), .ref m6, .int (nI tm)])), (m1, .inl (cI, 43, .inl (zArr z)))])) (cc := cX8_mendedBy) (maxL := 4) (ret := (some .int)) (own := RX8) (by decide) rfl (Nat.le_of_ble_eq_true rfl) rfl ?_
  intro p e s m args below meth c ls A H locs hx hb hr hts hown hlocks hml hin hsz hP hK hD hA hS hN hl
  have hl : lv_has ls 4 [(0, .ref m0), (1, .int (nI i))] := hl
  refine lv_iconst (v := 0) hx hb dX8_mendedBy_0 (by decide) ?_
  refine lv_istore_n (lv' := [(2, .int 0), (0, .ref m0), (1, .int (nI i))]) hx hb dX8_mendedBy_1 rfl hl (by decide) rfl (fun ls hl => ?_)
  refine lv_iconst (v := 0) hx hb dX8_mendedBy_2 (by decide) ?_
  refine lv_istore_n (lv' := [(3, .int 0), (2, .int 0), (0, .ref m0), (1, .int (nI i))]) hx hb dX8_mendedBy_3 rfl hl (by decide) rfl (fun ls hl => ?_)
  have J4 : ∀ (fuel : Nat) (k : Nat) (b : Nat) (yv : Int32) (yk : Int32) (hk : k ≤ 256) (hb9 : b = mdC z.2.2.2.2.2.2.2.1 z.2.2.2.2.2.1 i k) (hm : 256 - k < fuel) (H : Heap) (locs : List Loc) (hP : va_P D vwCl [(m0, .inr (8, [.ref m1, .ref m2, .int (nI sm), .ref m3, .int (nI ln), .int th, .ref m4, .int yv, .int yk, .ref m5, .int (nI sp), .ref m6, .int (nI tm)])), (m1, .inl (cI, 43, .inl (zArr z)))] H) (hD : va_D A [(m0, .inr (8, [.ref m1, .ref m2, .int (nI sm), .ref m3, .int (nI ln), .int th, .ref m4, .int yv, .int yk, .ref m5, .int (nI sp), .ref m6, .int (nI tm)])), (m1, .inl (cI, 43, .inl (zArr z)))]) (hS : va_S A s.heap H locs) (ls : Array Slot) (hl : lv_has ls 4 [(3, .int (nI k)), (2, .int (nI b)), (0, .ref m0), (1, .int (nI i))]), W p l e rmkX8_mendedBy s m args below meth c H locs 0 0 (MQ below (kQix D (nI (mdC z.2.2.2.2.2.2.2.1 z.2.2.2.2.2.1 i 256)) (fun (u9 : Int32 × Int32) => [(m0, .inr (8, [.ref m1, .ref m2, .int (nI sm), .ref m3, .int (nI ln), .int th, .ref m4, .int u9.1, .int u9.2, .ref m5, .int (nI sp), .ref m6, .int (nI tm)])), (m1, .inl (cI, 43, .inl (zArr z)))]) A) args s 0 0 A) (F0 m 4 ls []) := by
    intro fuel
    induction fuel with
    | zero => intro k b yv yk hk hb9 hm; exact absurd hm (Nat.not_lt_zero _)
    | succ fuel ih4 =>
      intro k b yv yk hk hb9 hm H locs hP hD hS ls hl
      refine lv_iload_n hx hb dX8_mendedBy_4 rfl (lv_at hl 0 rfl) ?_
      refine lv_sipush (v := 256) hx hb dX8_mendedBy_5 (by decide) ?_
      refine lv_icmp_ge (tgt := 42) hx hb dX8_mendedBy_8 (by decide) (fun c_8 => ?_) (fun c_8 => ?_)
      · have c_8 : 256 ≤ k := (nI_leI (a := 256) (b := k) (by omega) (by omega)).mp c_8
        refine lv_iload_n hx hb dX8_mendedBy_42 rfl (lv_at hl 1 rfl) ?_
        have hP9 := hP.sub (ws' := [(m0, .inr (8, [.ref m1, .ref m2, .int (nI sm), .ref m3, .int (nI ln), .int th, .ref m4, .int yv, .int yk, .ref m5, .int (nI sp), .ref m6, .int (nI tm)])), (m1, .inl (cI, 43, .inl (zArr z)))]) [0, 1] rfl
        have hD9 := hD.sub (ws' := [(m0, .inr (8, [.ref m1, .ref m2, .int (nI sm), .ref m3, .int (nI ln), .int th, .ref m4, .int yv, .int yk, .ref m5, .int (nI sp), .ref m6, .int (nI tm)])), (m1, .inl (cI, 43, .inl (zArr z)))]) [0, 1] (by decide) rfl
        exact kr_ix (v := nI b) (u := (yv, yk)) hx hb hr hlocks hP9 hD9 hS (by rw [hb9, show k = 256 from by omega]) dX8_mendedBy_43
      · have c_8 : ¬ 256 ≤ k := fun h => c_8 ((nI_leI (a := 256) (b := k) (by omega) (by omega)).mpr h)
        refine lv_iload_n hx hb dX8_mendedBy_11 rfl (lv_at hl 1 rfl) ?_
        refine lv_aload_n hx hb dX8_mendedBy_12 rfl (lv_at hl 2 rfl) ?_
        refine lv_bipush (v := 16) hx hb dX8_mendedBy_13 (by decide) ?_
        refine lv_iload_n hx hb dX8_mendedBy_15 rfl (lv_at hl 0 rfl) ?_
        refine lv_imul hx hb dX8_mendedBy_16 ?_
        refine k_topi (y := nI (16 * k)) (pk_mul 16 k) ?_
        refine lv_iconst (v := 0) hx hb dX8_mendedBy_17 (by decide) ?_
        refine lv_iconst (v := 0) hx hb dX8_mendedBy_18 (by decide) ?_
        refine lv_iconst (v := 1) hx hb dX8_mendedBy_19 (by decide) ?_
        refine lv_iload_n hx hb dX8_mendedBy_20 rfl (lv_at hl 3 rfl) ?_
        refine lv_ishl hx hb dX8_mendedBy_21 ?_
        refine kv_i (As := [.int (nI (16 * k)), .int 0, .int 0, .int ((1 : Int32) <<< ((nI i) &&& 31))]) (rest := [.int (nI b)]) (wr := []) ⟨hx, hb, hml, hown, hts⟩ (kX8_weigh l D H.size cI cC cJ cZ cQ m0 m1 m2 m3 m4 m5 m6 sm ln sp tm th yv yk z (nI (16 * k)) 0 0 ((1 : Int32) <<< ((nI i) &&& 31)) (by first | assumption | omega)) (cwV 4 hts gX8_mendedBy_X8_weigh rfl rfl rfl (by decide +kernel) ⟨Nat.le_of_ble_eq_true rfl, Nat.le_of_ble_eq_true rfl⟩) hP hD hK hS hA hN [0, 1] [] rfl rfl (by decide) (by decide) (by decide) 0 8 rfl rfl rfl rfl hl.1 rfl (Nat.le_of_ble_eq_true rfl) dX8_mendedBy_22 ⟨Nat.zero_le _, Nat.zero_le _⟩ (fun H locs hP hD hS => ?_)
        have hP : va_P D vwCl [(m0, .inr (8, [.ref m1, .ref m2, .int (nI sm), .ref m3, .int (nI ln), .int th, .ref m4, .int ((wgS z.2.2.2.2.2.2.2.1 0 0 ((1 : Int32) <<< ((nI i) &&& 31)) (nI (16 * k)) z.2.2.2.2.2.1).1), .int ((wgS z.2.2.2.2.2.2.2.1 0 0 ((1 : Int32) <<< ((nI i) &&& 31)) (nI (16 * k)) z.2.2.2.2.2.1).2.1), .ref m5, .int (nI sp), .ref m6, .int (nI tm)])), (m1, .inl (cI, 43, .inl (zArr z)))] H := hP
        have hD : va_D A [(m0, .inr (8, [.ref m1, .ref m2, .int (nI sm), .ref m3, .int (nI ln), .int th, .ref m4, .int ((wgS z.2.2.2.2.2.2.2.1 0 0 ((1 : Int32) <<< ((nI i) &&& 31)) (nI (16 * k)) z.2.2.2.2.2.1).1), .int ((wgS z.2.2.2.2.2.2.2.1 0 0 ((1 : Int32) <<< ((nI i) &&& 31)) (nI (16 * k)) z.2.2.2.2.2.1).2.1), .ref m5, .int (nI sp), .ref m6, .int (nI tm)])), (m1, .inl (cI, 43, .inl (zArr z)))] := hD
        refine lv_iload_n hx hb dX8_mendedBy_25 rfl (lv_at hl 0 rfl) ?_
        refine lv_icmp_ne (tgt := 33) hx hb dX8_mendedBy_26 (by decide) (fun c_26 => ?_) (fun c_26 => ?_)
        · refine lv_iconst (v := 0) hx hb dX8_mendedBy_33 (by decide) ?_
          refine lv_iadd hx hb dX8_mendedBy_34 ?_
          refine k_topi (y := nI (b + 0)) (nI_add b 0) ?_
          refine lv_istore_n (lv' := [(2, .int (nI (b + 0))), (3, .int (nI k)), (0, .ref m0), (1, .int (nI i))]) hx hb dX8_mendedBy_35 rfl hl (by decide) rfl (fun ls hl => ?_)
          refine lv_iinc (v := nI (k + 1)) (lv' := [(3, .int (nI (k + 1))), (2, .int (nI (b + 0))), (0, .ref m0), (1, .int (nI i))]) hx hb dX8_mendedBy_36 hl (k := 1) rfl (by exact k_inc k) (by decide) rfl (fun ls hl => ?_)
          refine lv_goto (tgt := 4) hx hb dX8_mendedBy_39 (by decide) ?_
          exact ih4 (k + 1) (b + 0) ((wgS z.2.2.2.2.2.2.2.1 0 0 ((1 : Int32) <<< ((nI i) &&& 31)) (nI (16 * k)) z.2.2.2.2.2.1).1) ((wgS z.2.2.2.2.2.2.2.1 0 0 ((1 : Int32) <<< ((nI i) &&& 31)) (nI (16 * k)) z.2.2.2.2.2.1).2.1) (by first | assumption | omega) (by rw [hb9, mdC]; first | rw [if_pos c_26] | rw [if_neg c_26]) (by omega) _ _ (hP.sub [0, 1] rfl) (hD.sub [0, 1] (by decide) rfl) hS _ (lv_sub hl [0, 1, 2, 3] rfl)
        · refine lv_iconst (v := 1) hx hb dX8_mendedBy_29 (by decide) ?_
          refine lv_goto (tgt := 34) hx hb dX8_mendedBy_30 (by decide) ?_
          refine lv_iadd hx hb dX8_mendedBy_34 ?_
          refine k_topi (y := nI (b + 1)) (nI_add b 1) ?_
          refine lv_istore_n (lv' := [(2, .int (nI (b + 1))), (3, .int (nI k)), (0, .ref m0), (1, .int (nI i))]) hx hb dX8_mendedBy_35 rfl hl (by decide) rfl (fun ls hl => ?_)
          refine lv_iinc (v := nI (k + 1)) (lv' := [(3, .int (nI (k + 1))), (2, .int (nI (b + 1))), (0, .ref m0), (1, .int (nI i))]) hx hb dX8_mendedBy_36 hl (k := 1) rfl (by exact k_inc k) (by decide) rfl (fun ls hl => ?_)
          refine lv_goto (tgt := 4) hx hb dX8_mendedBy_39 (by decide) ?_
          exact ih4 (k + 1) (b + 1) ((wgS z.2.2.2.2.2.2.2.1 0 0 ((1 : Int32) <<< ((nI i) &&& 31)) (nI (16 * k)) z.2.2.2.2.2.1).1) ((wgS z.2.2.2.2.2.2.2.1 0 0 ((1 : Int32) <<< ((nI i) &&& 31)) (nI (16 * k)) z.2.2.2.2.2.1).2.1) (by first | assumption | omega) (by rw [hb9, mdC]; first | rw [if_pos c_26] | rw [if_neg c_26]) (by omega) _ _ (hP.sub [0, 1] rfl) (hD.sub [0, 1] (by decide) rfl) hS _ (lv_sub hl [0, 1, 2, 3] rfl)
  exact J4 (256 - 0 + 1) 0 0 lf kp (by first | assumption | omega) rfl (Nat.lt_succ_self _) _ _ (hP.sub [0, 1] rfl) (hD.sub [0, 1] (by decide) rfl) hS _ (lv_sub hl [0, 1, 2, 3] rfl)

theorem inX8_changeIn_8 : ∀ w ∈ wsX80, w ∈ wsX8_changeIn := fun _ h => List.mem_cons_of_mem _ (List.mem_append_right _ h)
abbrev rmkX8_changeIn : Room := { frames := 3, cells := 0, slots := 0, locals := 69 }
set_option maxHeartbeats 4000000 in
set_option maxRecDepth 100000 in
theorem kX8_changeIn (l : Launch) (D : va_G) (sz : Nat) (cI : ClassId) (cC : ClassId) (cJ : ClassId) (cZ : ClassId) (cQ : ClassId) (m0 : Nat) (m1 : Nat) (m2 : Nat) (m3 : Nat) (m4 : Nat) (m5 : Nat) (m6 : Nat) (sm : Nat) (ln : Nat) (sp : Nat) (tm : Nat) (th : Int32) (lf : Int32) (kp : Int32) (z : StV) (hwc : z.2.2.2.2.2.1 ≤ 12) : Met l yX8_changeIn wsX8_changeIn rmkX8_changeIn (va_Pc [.ref m0] (kPre D sz [(m0, .inr (8, [.ref m1, .ref m2, .int (nI sm), .ref m3, .int (nI ln), .int th, .ref m4, .int lf, .int kp, .ref m5, .int (nI sp), .ref m6, .int (nI tm)])), (m1, .inl (cI, 43, .inl (zArr z)))] (kT cI cC cJ cZ cQ))) (kQix D (tcGo z.2.2.2.2.2.2.2.1 z.2.2.2.2.2.1 z.2.2.1 (wgS z.2.2.2.2.2.2.2.1 0 0 0 z.1 z.2.2.2.2.2.1).2.2 200 1 z.1) (fun (u9 : Int32 × Int32) => [(m0, .inr (8, [.ref m1, .ref m2, .int (nI sm), .ref m3, .int (nI ln), .int th, .ref m4, .int u9.1, .int u9.2, .ref m5, .int (nI sp), .ref m6, .int (nI tm)])), (m1, .inl (cI, 43, .inl (zArr z)))]) (va_A [(m0, .inr (8, [.ref m1, .ref m2, .int (nI sm), .ref m3, .int (nI ln), .int th, .ref m4, .int lf, .int kp, .ref m5, .int (nI sp), .ref m6, .int (nI tm)])), (m1, .inl (cI, 43, .inl (zArr z)))] sz)) 0 0 (va_A [(m0, .inr (8, [.ref m1, .ref m2, .int (nI sm), .ref m3, .int (nI ln), .int th, .ref m4, .int lf, .int kp, .ref m5, .int (nI sp), .ref m6, .int (nI tm)])), (m1, .inl (cI, 43, .inl (zArr z)))] sz) := by
  refine k_met (Qf := kQix D (tcGo z.2.2.2.2.2.2.2.1 z.2.2.2.2.2.1 z.2.2.1 (wgS z.2.2.2.2.2.2.2.1 0 0 0 z.1 z.2.2.2.2.2.1).2.2 200 1 z.1) (fun (u9 : Int32 × Int32) => [(m0, .inr (8, [.ref m1, .ref m2, .int (nI sm), .ref m3, .int (nI ln), .int th, .ref m4, .int u9.1, .int u9.2, .ref m5, .int (nI sp), .ref m6, .int (nI tm)])), (m1, .inl (cI, 43, .inl (zArr z)))])) (cc := cX8_changeIn) (maxL := 4) (ret := (some .int)) (own := RX8) (by decide) rfl (Nat.le_of_ble_eq_true rfl) rfl ?_
  intro p e s m args below meth c ls A H locs hx hb hr hts hown hlocks hml hin hsz hP hK hD hA hS hN hl
  have hl : lv_has ls 4 [(0, .ref m0)] := hl
  refine lv_aload_n hx hb dX8_changeIn_0 rfl (lv_at hl 0 rfl) ?_
  refine lv_aload_n hx hb dX8_changeIn_1 rfl (lv_at hl 0 rfl) ?_
  refine va_get (D := D) (ci := 8) (v := .ref m1) (C := RX8) (T := TX8) (N := 13) hx hb hts inX8_changeIn_8 hown hK hP 0 rfl rfl 0 (by decide) (hts (.fieldLink RX8 7 "WeighingConverterModel" "z" "[I") (List.mem_of_getElem? (i := 1) rfl)) (fun _ h9 => h9) rfl dX8_changeIn_2 ?_
  refine lv_iconst (v := 0) hx hb dX8_changeIn_5 (by decide) ?_
  refine k_iald (k := 0) hx hb hK hP 1 0 rfl rfl (by omega) (by decide) dX8_changeIn_6 ?_
  refine k_topi (y := z.1) rfl ?_
  refine kv_i (As := [.int z.1]) (rest := []) (wr := []) ⟨hx, hb, hml, hown, hts⟩ (kX8_idealOf l D H.size cI cC cJ cZ cQ m0 m1 m2 m3 m4 m5 m6 sm ln sp tm th lf kp z z.1 (by first | assumption | omega)) (cwV 1 hts gX8_changeIn_X8_idealOf rfl rfl rfl (by decide +kernel) ⟨Nat.le_of_ble_eq_true rfl, Nat.le_of_ble_eq_true rfl⟩) hP hD hK hS hA hN [0, 1] [] rfl rfl (by decide) (by decide) (by decide) 0 8 rfl rfl rfl rfl hl.1 rfl (Nat.le_of_ble_eq_true rfl) dX8_changeIn_7 ⟨Nat.zero_le _, Nat.zero_le _⟩ (fun H locs hP hD hS => ?_)
  have hP : va_P D vwCl [(m0, .inr (8, [.ref m1, .ref m2, .int (nI sm), .ref m3, .int (nI ln), .int th, .ref m4, .int ((wgS z.2.2.2.2.2.2.2.1 0 0 0 z.1 z.2.2.2.2.2.1).1), .int ((wgS z.2.2.2.2.2.2.2.1 0 0 0 z.1 z.2.2.2.2.2.1).2.1), .ref m5, .int (nI sp), .ref m6, .int (nI tm)])), (m1, .inl (cI, 43, .inl (zArr z)))] H := hP
  have hD : va_D A [(m0, .inr (8, [.ref m1, .ref m2, .int (nI sm), .ref m3, .int (nI ln), .int th, .ref m4, .int ((wgS z.2.2.2.2.2.2.2.1 0 0 0 z.1 z.2.2.2.2.2.1).1), .int ((wgS z.2.2.2.2.2.2.2.1 0 0 0 z.1 z.2.2.2.2.2.1).2.1), .ref m5, .int (nI sp), .ref m6, .int (nI tm)])), (m1, .inl (cI, 43, .inl (zArr z)))] := hD
  refine lv_istore_n (lv' := [(1, .int ((wgS z.2.2.2.2.2.2.2.1 0 0 0 z.1 z.2.2.2.2.2.1).2.2)), (0, .ref m0)]) hx hb dX8_changeIn_10 rfl hl (by decide) rfl (fun ls hl => ?_)
  refine lv_aload_n hx hb dX8_changeIn_11 rfl (lv_at hl 1 rfl) ?_
  refine va_get (D := D) (ci := 8) (v := .ref m1) (C := RX8) (T := TX8) (N := 13) hx hb hts inX8_changeIn_8 hown hK hP 0 rfl rfl 0 (by decide) (hts (.fieldLink RX8 7 "WeighingConverterModel" "z" "[I") (List.mem_of_getElem? (i := 1) rfl)) (fun _ h9 => h9) rfl dX8_changeIn_12 ?_
  refine lv_iconst (v := 0) hx hb dX8_changeIn_15 (by decide) ?_
  refine k_iald (k := 0) hx hb hK hP 1 0 rfl rfl (by omega) (by decide) dX8_changeIn_16 ?_
  refine k_topi (y := z.1) rfl ?_
  refine lv_istore_n (lv' := [(2, .int z.1), (1, .int ((wgS z.2.2.2.2.2.2.2.1 0 0 0 z.1 z.2.2.2.2.2.1).2.2)), (0, .ref m0)]) hx hb dX8_changeIn_17 rfl hl (by decide) rfl (fun ls hl => ?_)
  refine lv_iconst (v := 1) hx hb dX8_changeIn_18 (by decide) ?_
  refine lv_istore_n (lv' := [(3, .int 1), (2, .int z.1), (1, .int ((wgS z.2.2.2.2.2.2.2.1 0 0 0 z.1 z.2.2.2.2.2.1).2.2)), (0, .ref m0)]) hx hb dX8_changeIn_19 rfl hl (by decide) rfl (fun ls hl => ?_)
  have J20 : ∀ (fuel : Nat) (t : Nat) (h : Int32) (yv : Int32) (yk : Int32) (ht1 : 1 ≤ t) (ht : t ≤ 201) (he : tcGo z.2.2.2.2.2.2.2.1 z.2.2.2.2.2.1 z.2.2.1 (wgS z.2.2.2.2.2.2.2.1 0 0 0 z.1 z.2.2.2.2.2.1).2.2 (201 - t) t h = tcGo z.2.2.2.2.2.2.2.1 z.2.2.2.2.2.1 z.2.2.1 (wgS z.2.2.2.2.2.2.2.1 0 0 0 z.1 z.2.2.2.2.2.1).2.2 200 1 z.1) (hm : 201 - t < fuel) (H : Heap) (locs : List Loc) (hP : va_P D vwCl [(m0, .inr (8, [.ref m1, .ref m2, .int (nI sm), .ref m3, .int (nI ln), .int th, .ref m4, .int yv, .int yk, .ref m5, .int (nI sp), .ref m6, .int (nI tm)])), (m1, .inl (cI, 43, .inl (zArr z)))] H) (hD : va_D A [(m0, .inr (8, [.ref m1, .ref m2, .int (nI sm), .ref m3, .int (nI ln), .int th, .ref m4, .int yv, .int yk, .ref m5, .int (nI sp), .ref m6, .int (nI tm)])), (m1, .inl (cI, 43, .inl (zArr z)))]) (hS : va_S A s.heap H locs) (ls : Array Slot) (hl : lv_has ls 4 [(3, .int (nI t)), (2, .int h), (1, .int ((wgS z.2.2.2.2.2.2.2.1 0 0 0 z.1 z.2.2.2.2.2.1).2.2)), (0, .ref m0)]), W p l e rmkX8_changeIn s m args below meth c H locs 0 0 (MQ below (kQix D (tcGo z.2.2.2.2.2.2.2.1 z.2.2.2.2.2.1 z.2.2.1 (wgS z.2.2.2.2.2.2.2.1 0 0 0 z.1 z.2.2.2.2.2.1).2.2 200 1 z.1) (fun (u9 : Int32 × Int32) => [(m0, .inr (8, [.ref m1, .ref m2, .int (nI sm), .ref m3, .int (nI ln), .int th, .ref m4, .int u9.1, .int u9.2, .ref m5, .int (nI sp), .ref m6, .int (nI tm)])), (m1, .inl (cI, 43, .inl (zArr z)))]) A) args s 0 0 A) (F0 m 20 ls []) := by
    intro fuel
    induction fuel with
    | zero => intro t h yv yk ht1 ht he hm; exact absurd hm (Nat.not_lt_zero _)
    | succ fuel ih20 =>
      intro t h yv yk ht1 ht he hm H locs hP hD hS ls hl
      refine lv_iload_n hx hb dX8_changeIn_20 rfl (lv_at hl 0 rfl) ?_
      refine lv_sipush (v := 200) hx hb dX8_changeIn_21 (by decide) ?_
      refine lv_icmp_gt (tgt := 55) hx hb dX8_changeIn_24 (by decide) (fun c_24 => ?_) (fun c_24 => ?_)
      · have c_24 : 200 < t := (nI_ltI (a := 200) (b := t) (by omega) (by omega)).mp c_24
        refine lv_iconst (v := (-1)) hx hb dX8_changeIn_55 (by decide) ?_
        have hP9 := hP.sub (ws' := [(m0, .inr (8, [.ref m1, .ref m2, .int (nI sm), .ref m3, .int (nI ln), .int th, .ref m4, .int yv, .int yk, .ref m5, .int (nI sp), .ref m6, .int (nI tm)])), (m1, .inl (cI, 43, .inl (zArr z)))]) [0, 1] rfl
        have hD9 := hD.sub (ws' := [(m0, .inr (8, [.ref m1, .ref m2, .int (nI sm), .ref m3, .int (nI ln), .int th, .ref m4, .int yv, .int yk, .ref m5, .int (nI sp), .ref m6, .int (nI tm)])), (m1, .inl (cI, 43, .inl (zArr z)))]) [0, 1] (by decide) rfl
        exact kr_ix (v := (-1)) (u := (yv, yk)) hx hb hr hlocks hP9 hD9 hS (by rw [← he, show t = 201 from by omega]; rfl) dX8_changeIn_56
      · have c_24 : ¬ 200 < t := fun h => c_24 ((nI_ltI (a := 200) (b := t) (by omega) (by omega)).mpr h)
        refine lv_iload_n hx hb dX8_changeIn_27 rfl (lv_at hl 1 rfl) ?_
        refine lv_aload_n hx hb dX8_changeIn_28 rfl (lv_at hl 3 rfl) ?_
        refine va_get (D := D) (ci := 8) (v := .ref m1) (C := RX8) (T := TX8) (N := 13) hx hb hts inX8_changeIn_8 hown hK hP 0 rfl rfl 0 (by decide) (hts (.fieldLink RX8 7 "WeighingConverterModel" "z" "[I") (List.mem_of_getElem? (i := 1) rfl)) (fun _ h9 => h9) rfl dX8_changeIn_29 ?_
        refine lv_iconst (v := 2) hx hb dX8_changeIn_32 (by decide) ?_
        refine k_iald (k := 2) hx hb hK hP 1 0 rfl rfl (by omega) (by decide) dX8_changeIn_33 ?_
        refine k_topi (y := z.2.2.1) rfl ?_
        refine ks_i0 (As := [.int h, .int z.2.2.1]) (rest := []) ⟨hx, hb, hml, hown, hts⟩ (kX8_held l h z.2.2.1) (va_cwS 2 hts gX8_changeIn_X8_held rfl rfl rfl (by decide +kernel) ⟨Nat.le_of_ble_eq_true rfl, Nat.le_of_ble_eq_true rfl⟩) hP hS rfl hl.1 rfl (Nat.le_of_ble_eq_true rfl) dX8_changeIn_34 ⟨Nat.zero_le _, Nat.zero_le _⟩ (fun H locs hP hS => ?_)
        refine lv_istore_n (lv' := [(2, .int (hTick h z.2.2.1)), (3, .int (nI t)), (1, .int ((wgS z.2.2.2.2.2.2.2.1 0 0 0 z.1 z.2.2.2.2.2.1).2.2)), (0, .ref m0)]) hx hb dX8_changeIn_37 rfl hl (by decide) rfl (fun ls hl => ?_)
        refine lv_aload_n hx hb dX8_changeIn_38 rfl (lv_at hl 3 rfl) ?_
        refine lv_iload_n hx hb dX8_changeIn_39 rfl (lv_at hl 0 rfl) ?_
        refine kv_i (As := [.int (hTick h z.2.2.1)]) (rest := []) (wr := []) ⟨hx, hb, hml, hown, hts⟩ (kX8_idealOf l D H.size cI cC cJ cZ cQ m0 m1 m2 m3 m4 m5 m6 sm ln sp tm th yv yk z (hTick h z.2.2.1) (by first | assumption | omega)) (cwV 1 hts gX8_changeIn_X8_idealOf rfl rfl rfl (by decide +kernel) ⟨Nat.le_of_ble_eq_true rfl, Nat.le_of_ble_eq_true rfl⟩) hP hD hK hS hA hN [0, 1] [] rfl rfl (by decide) (by decide) (by decide) 0 8 rfl rfl rfl rfl hl.1 rfl (Nat.le_of_ble_eq_true rfl) dX8_changeIn_40 ⟨Nat.zero_le _, Nat.zero_le _⟩ (fun H locs hP hD hS => ?_)
        have hP : va_P D vwCl [(m0, .inr (8, [.ref m1, .ref m2, .int (nI sm), .ref m3, .int (nI ln), .int th, .ref m4, .int ((wgS z.2.2.2.2.2.2.2.1 0 0 0 (hTick h z.2.2.1) z.2.2.2.2.2.1).1), .int ((wgS z.2.2.2.2.2.2.2.1 0 0 0 (hTick h z.2.2.1) z.2.2.2.2.2.1).2.1), .ref m5, .int (nI sp), .ref m6, .int (nI tm)])), (m1, .inl (cI, 43, .inl (zArr z)))] H := hP
        have hD : va_D A [(m0, .inr (8, [.ref m1, .ref m2, .int (nI sm), .ref m3, .int (nI ln), .int th, .ref m4, .int ((wgS z.2.2.2.2.2.2.2.1 0 0 0 (hTick h z.2.2.1) z.2.2.2.2.2.1).1), .int ((wgS z.2.2.2.2.2.2.2.1 0 0 0 (hTick h z.2.2.1) z.2.2.2.2.2.1).2.1), .ref m5, .int (nI sp), .ref m6, .int (nI tm)])), (m1, .inl (cI, 43, .inl (zArr z)))] := hD
        refine lv_iload_n hx hb dX8_changeIn_43 rfl (lv_at hl 2 rfl) ?_
        refine lv_icmp_eq (tgt := 49) hx hb dX8_changeIn_44 (by decide) (fun c_44 => ?_) (fun c_44 => ?_)
        · refine lv_iinc (v := nI (t + 1)) (lv' := [(3, .int (nI (t + 1))), (2, .int (hTick h z.2.2.1)), (1, .int ((wgS z.2.2.2.2.2.2.2.1 0 0 0 z.1 z.2.2.2.2.2.1).2.2)), (0, .ref m0)]) hx hb dX8_changeIn_49 hl (k := 1) rfl (by exact k_inc t) (by decide) rfl (fun ls hl => ?_)
          refine lv_goto (tgt := 20) hx hb dX8_changeIn_52 (by decide) ?_
          exact ih20 (t + 1) (hTick h z.2.2.1) ((wgS z.2.2.2.2.2.2.2.1 0 0 0 (hTick h z.2.2.1) z.2.2.2.2.2.1).1) ((wgS z.2.2.2.2.2.2.2.1 0 0 0 (hTick h z.2.2.1) z.2.2.2.2.2.1).2.1) (by first | assumption | omega) (by first | assumption | omega) (by rw [← he, tcGo_step (t := t) (by omega), if_pos c_44]) (by omega) _ _ (hP.sub [0, 1] rfl) (hD.sub [0, 1] (by decide) rfl) hS _ (lv_sub hl [0, 1, 2, 3] rfl)
        · refine lv_iload_n hx hb dX8_changeIn_47 rfl (lv_at hl 1 rfl) ?_
          have hP9 := hP.sub (ws' := [(m0, .inr (8, [.ref m1, .ref m2, .int (nI sm), .ref m3, .int (nI ln), .int th, .ref m4, .int ((wgS z.2.2.2.2.2.2.2.1 0 0 0 (hTick h z.2.2.1) z.2.2.2.2.2.1).1), .int ((wgS z.2.2.2.2.2.2.2.1 0 0 0 (hTick h z.2.2.1) z.2.2.2.2.2.1).2.1), .ref m5, .int (nI sp), .ref m6, .int (nI tm)])), (m1, .inl (cI, 43, .inl (zArr z)))]) [0, 1] rfl
          have hD9 := hD.sub (ws' := [(m0, .inr (8, [.ref m1, .ref m2, .int (nI sm), .ref m3, .int (nI ln), .int th, .ref m4, .int ((wgS z.2.2.2.2.2.2.2.1 0 0 0 (hTick h z.2.2.1) z.2.2.2.2.2.1).1), .int ((wgS z.2.2.2.2.2.2.2.1 0 0 0 (hTick h z.2.2.1) z.2.2.2.2.2.1).2.1), .ref m5, .int (nI sp), .ref m6, .int (nI tm)])), (m1, .inl (cI, 43, .inl (zArr z)))]) [0, 1] (by decide) rfl
          exact kr_ix (v := nI t) (u := ((wgS z.2.2.2.2.2.2.2.1 0 0 0 (hTick h z.2.2.1) z.2.2.2.2.2.1).1, (wgS z.2.2.2.2.2.2.2.1 0 0 0 (hTick h z.2.2.1) z.2.2.2.2.2.1).2.1)) hx hb hr hlocks hP9 hD9 hS (by rw [← he, tcGo_step (t := t) (by omega), if_neg c_44]) dX8_changeIn_48
  exact J20 (201 - 1 + 1) 1 z.1 ((wgS z.2.2.2.2.2.2.2.1 0 0 0 z.1 z.2.2.2.2.2.1).1) ((wgS z.2.2.2.2.2.2.2.1 0 0 0 z.1 z.2.2.2.2.2.1).2.1) (by first | assumption | omega) (by first | assumption | omega) rfl (Nat.lt_succ_self _) _ _ (hP.sub [0, 1] rfl) (hD.sub [0, 1] (by decide) rfl) hS _ (lv_sub hl [0, 1, 2, 3] rfl)

theorem inX8_ticksToChange_8 : ∀ w ∈ wsX80, w ∈ wsX8_ticksToChange := fun _ h => List.mem_cons_of_mem _ (List.mem_append_right _ h)
abbrev rmkX8_ticksToChange : Room := { frames := 4, cells := 0, slots := 0, locals := 92 }
set_option maxHeartbeats 4000000 in
set_option maxRecDepth 100000 in
theorem kX8_ticksToChange (l : Launch) (D : va_G) (sz : Nat) (cI : ClassId) (cC : ClassId) (cJ : ClassId) (cZ : ClassId) (cQ : ClassId) (m0 : Nat) (m1 : Nat) (m2 : Nat) (m3 : Nat) (m4 : Nat) (m5 : Nat) (m6 : Nat) (sm : Nat) (ln : Nat) (sp : Nat) (tm : Nat) (th : Int32) (lf : Int32) (kp : Int32) (z : StV) (hwc : z.2.2.2.2.2.1 ≤ 12) : Met l yX8_ticksToChange wsX8_ticksToChange rmkX8_ticksToChange (va_Pc [.ref m0] (kPre D sz [(m0, .inr (8, [.ref m1, .ref m2, .int (nI sm), .ref m3, .int (nI ln), .int th, .ref m4, .int lf, .int kp, .ref m5, .int (nI sp), .ref m6, .int (nI tm)])), (m1, .inl (cI, 43, .inl (zArr z)))] (kT cI cC cJ cZ cQ))) (kQix D (tcGo z.2.2.2.2.2.2.2.1 z.2.2.2.2.2.1 z.2.2.1 (wgS z.2.2.2.2.2.2.2.1 0 0 0 z.1 z.2.2.2.2.2.1).2.2 200 1 z.1) (fun (u9 : Int32 × Int32) => [(m0, .inr (8, [.ref m1, .ref m2, .int (nI sm), .ref m3, .int (nI ln), .int 0, .ref m4, .int u9.1, .int u9.2, .ref m5, .int (nI sp), .ref m6, .int (nI tm)])), (m1, .inl (cI, 43, .inl (zArr z)))]) (va_A [(m0, .inr (8, [.ref m1, .ref m2, .int (nI sm), .ref m3, .int (nI ln), .int th, .ref m4, .int lf, .int kp, .ref m5, .int (nI sp), .ref m6, .int (nI tm)])), (m1, .inl (cI, 43, .inl (zArr z)))] sz)) 0 0 (va_A [(m0, .inr (8, [.ref m1, .ref m2, .int (nI sm), .ref m3, .int (nI ln), .int th, .ref m4, .int lf, .int kp, .ref m5, .int (nI sp), .ref m6, .int (nI tm)])), (m1, .inl (cI, 43, .inl (zArr z)))] sz) := by
  refine k_met (Qf := kQix D (tcGo z.2.2.2.2.2.2.2.1 z.2.2.2.2.2.1 z.2.2.1 (wgS z.2.2.2.2.2.2.2.1 0 0 0 z.1 z.2.2.2.2.2.1).2.2 200 1 z.1) (fun (u9 : Int32 × Int32) => [(m0, .inr (8, [.ref m1, .ref m2, .int (nI sm), .ref m3, .int (nI ln), .int 0, .ref m4, .int u9.1, .int u9.2, .ref m5, .int (nI sp), .ref m6, .int (nI tm)])), (m1, .inl (cI, 43, .inl (zArr z)))])) (cc := cX8_ticksToChange) (maxL := 1) (ret := (some .int)) (own := RX8) (by decide) rfl (Nat.le_of_ble_eq_true rfl) rfl ?_
  intro p e s m args below meth c ls A H locs hx hb hr hts hown hlocks hml hin hsz hP hK hD hA hS hN hl
  have hl : lv_has ls 1 [(0, .ref m0)] := hl
  refine lv_aload_n hx hb dX8_ticksToChange_0 rfl (lv_at hl 0 rfl) ?_
  refine lv_iconst (v := 0) hx hb dX8_ticksToChange_1 (by decide) ?_
  refine va_put (D := D) (ci := 8) (v := .int 0) (ty := .int) (C := RX8) (T := TX8) (N := 13) hx hb hts inX8_ticksToChange_8 tyX8 tyX8_ok nmX8 hown hK hP hD hS 0 rfl rfl 5 (by decide) (hts (.fieldLink RX8 29 "WeighingConverterModel" "thrown" "I") (List.mem_of_getElem? (i := 1) rfl)) (fun _ h9 => h9) rfl (by decide +kernel) rfl rfl (Nat.le_of_ble_eq_true rfl) dX8_ticksToChange_2 (fun H locs hP hD hS => ?_)
  have hP : va_P D vwCl [(m0, .inr (8, [.ref m1, .ref m2, .int (nI sm), .ref m3, .int (nI ln), .int 0, .ref m4, .int lf, .int kp, .ref m5, .int (nI sp), .ref m6, .int (nI tm)])), (m1, .inl (cI, 43, .inl (zArr z)))] H := hP
  have hD : va_D A [(m0, .inr (8, [.ref m1, .ref m2, .int (nI sm), .ref m3, .int (nI ln), .int 0, .ref m4, .int lf, .int kp, .ref m5, .int (nI sp), .ref m6, .int (nI tm)])), (m1, .inl (cI, 43, .inl (zArr z)))] := hD
  refine lv_aload_n hx hb dX8_ticksToChange_5 rfl (lv_at hl 0 rfl) ?_
  refine kv_ix (As := []) (rest := []) (wr := []) ⟨hx, hb, hml, hown, hts⟩ (kX8_changeIn l D H.size cI cC cJ cZ cQ m0 m1 m2 m3 m4 m5 m6 sm ln sp tm 0 lf kp z (by first | assumption | omega)) (cwV 0 hts gX8_ticksToChange_X8_changeIn rfl rfl rfl (by decide +kernel) ⟨Nat.le_of_ble_eq_true rfl, Nat.le_of_ble_eq_true rfl⟩) hP hD hK hS hA hN [0, 1] [] rfl rfl (by decide) (by decide) (by decide) 0 8 rfl rfl rfl rfl hl.1 rfl (Nat.le_of_ble_eq_true rfl) dX8_ticksToChange_6 ⟨Nat.zero_le _, Nat.zero_le _⟩ (fun u_1 H locs hP hD hS => ?_)
  have hP : va_P D vwCl [(m0, .inr (8, [.ref m1, .ref m2, .int (nI sm), .ref m3, .int (nI ln), .int 0, .ref m4, .int u_1.1, .int u_1.2, .ref m5, .int (nI sp), .ref m6, .int (nI tm)])), (m1, .inl (cI, 43, .inl (zArr z)))] H := hP
  have hD : va_D A [(m0, .inr (8, [.ref m1, .ref m2, .int (nI sm), .ref m3, .int (nI ln), .int 0, .ref m4, .int u_1.1, .int u_1.2, .ref m5, .int (nI sp), .ref m6, .int (nI tm)])), (m1, .inl (cI, 43, .inl (zArr z)))] := hD
  have hP9 := hP.sub (ws' := [(m0, .inr (8, [.ref m1, .ref m2, .int (nI sm), .ref m3, .int (nI ln), .int 0, .ref m4, .int u_1.1, .int u_1.2, .ref m5, .int (nI sp), .ref m6, .int (nI tm)])), (m1, .inl (cI, 43, .inl (zArr z)))]) [0, 1] rfl
  have hD9 := hD.sub (ws' := [(m0, .inr (8, [.ref m1, .ref m2, .int (nI sm), .ref m3, .int (nI ln), .int 0, .ref m4, .int u_1.1, .int u_1.2, .ref m5, .int (nI sp), .ref m6, .int (nI tm)])), (m1, .inl (cI, 43, .inl (zArr z)))]) [0, 1] (by decide) rfl
  exact kr_ix (v := tcGo z.2.2.2.2.2.2.2.1 z.2.2.2.2.2.1 z.2.2.1 (wgS z.2.2.2.2.2.2.2.1 0 0 0 z.1 z.2.2.2.2.2.1).2.2 200 1 z.1) (u := (u_1.1, u_1.2)) hx hb hr hlocks hP9 hD9 hS rfl dX8_ticksToChange_9

theorem inkX8_hold_ok_8 : ∀ w ∈ wsX80, w ∈ wsX8_hold := fun _ h => List.mem_cons_of_mem _ (List.mem_append_right _ h)
abbrev rmkX8_hold_ok : Room := { frames := 2, cells := 0, slots := 0, locals := 45 }
set_option maxHeartbeats 4000000 in
set_option maxRecDepth 100000 in
theorem kX8_hold_ok (l : Launch) (D : va_G) (sz : Nat) (cI : ClassId) (cC : ClassId) (cJ : ClassId) (cZ : ClassId) (cQ : ClassId) (m0 : Nat) (m1 : Nat) (m2 : Nat) (m3 : Nat) (m4 : Nat) (m5 : Nat) (m6 : Nat) (sm : Nat) (ln : Nat) (sp : Nat) (tm : Nat) (th : Int32) (lf : Int32) (kp : Int32) (z : StV) (T : Nat → StV) (n : Nat) (hsm : sm ≤ 6) (hn1 : 1 ≤ n) (hn2 : n ≤ 99) : Met l yX8_hold wsX8_hold rmkX8_hold_ok (va_Pc [.ref m0, .int (nI n)] (kPre D sz [(m0, .inr (8, [.ref m1, .ref m2, .int (nI sm), .ref m3, .int (nI ln), .int th, .ref m4, .int lf, .int kp, .ref m5, .int (nI sp), .ref m6, .int (nI tm)])), (m1, .inl (cI, 43, .inl (zArr z))), (m2, .inl (cI, 258, .inl (sArr T)))] (kT cI cC cJ cZ cQ))) (kQi D (hItr z.2.2.1 n z.1) [(m0, .inr (8, [.ref m1, .ref m2, .int (nI (min (sm + 1) 6)), .ref m3, .int (nI ln), .int 0, .ref m4, .int lf, .int kp, .ref m5, .int (nI sp), .ref m6, .int (nI tm)])), (m1, .inl (cI, 43, .inl (zArr (hItr z.2.2.1 n z.1, z.2.1, z.2.2.1, z.2.2.2.1, z.2.2.2.2.1, z.2.2.2.2.2.1, z.2.2.2.2.2.2.1, z.2.2.2.2.2.2.2.1, z.2.2.2.2.2.2.2.2.1, z.2.2.2.2.2.2.2.2.2.1, z.2.2.2.2.2.2.2.2.2.2)))), (m2, .inl (cI, 258, .inl (sArr (svS T sm z))))] (va_A [(m0, .inr (8, [.ref m1, .ref m2, .int (nI sm), .ref m3, .int (nI ln), .int th, .ref m4, .int lf, .int kp, .ref m5, .int (nI sp), .ref m6, .int (nI tm)])), (m1, .inl (cI, 43, .inl (zArr z))), (m2, .inl (cI, 258, .inl (sArr T)))] sz)) 0 0 (va_A [(m0, .inr (8, [.ref m1, .ref m2, .int (nI sm), .ref m3, .int (nI ln), .int th, .ref m4, .int lf, .int kp, .ref m5, .int (nI sp), .ref m6, .int (nI tm)])), (m1, .inl (cI, 43, .inl (zArr z))), (m2, .inl (cI, 258, .inl (sArr T)))] sz) := by
  refine k_met (Qf := kQi D (hItr z.2.2.1 n z.1) [(m0, .inr (8, [.ref m1, .ref m2, .int (nI (min (sm + 1) 6)), .ref m3, .int (nI ln), .int 0, .ref m4, .int lf, .int kp, .ref m5, .int (nI sp), .ref m6, .int (nI tm)])), (m1, .inl (cI, 43, .inl (zArr (hItr z.2.2.1 n z.1, z.2.1, z.2.2.1, z.2.2.2.1, z.2.2.2.2.1, z.2.2.2.2.2.1, z.2.2.2.2.2.2.1, z.2.2.2.2.2.2.2.1, z.2.2.2.2.2.2.2.2.1, z.2.2.2.2.2.2.2.2.2.1, z.2.2.2.2.2.2.2.2.2.2)))), (m2, .inl (cI, 258, .inl (sArr (svS T sm z))))]) (cc := cX8_hold) (maxL := 3) (ret := (some .int)) (own := RX8) (by decide) rfl (Nat.le_of_ble_eq_true rfl) rfl ?_
  intro p e s m args below meth c ls A H locs hx hb hr hts hown hlocks hml hin hsz hP hK hD hA hS hN hl
  have hl : lv_has ls 3 [(0, .ref m0), (1, .int (nI n))] := hl
  refine lv_aload_n hx hb dX8_hold_0 rfl (lv_at hl 0 rfl) ?_
  refine lv_iload_n hx hb dX8_hold_1 rfl (lv_at hl 1 rfl) ?_
  refine lv_iconst (v := 1) hx hb dX8_hold_2 (by decide) ?_
  refine lv_bipush (v := 99) hx hb dX8_hold_3 (by decide) ?_
  refine ks_i0 (As := [.int (nI n), .int 1, .int 99]) (rest := [.ref m0]) ⟨hx, hb, hml, hown, hts⟩ (kX8_in l (nI n) 1 99) (va_cwS 3 hts gX8_hold_X8_in rfl rfl rfl (by decide +kernel) ⟨Nat.le_of_ble_eq_true rfl, Nat.le_of_ble_eq_true rfl⟩) hP hS rfl hl.1 rfl (Nat.le_of_ble_eq_true rfl) dX8_hold_5 ⟨Nat.zero_le _, Nat.zero_le _⟩ (fun H locs hP hS => ?_)
  refine k_topi (y := 1) (inM_n (a := 1) (b := 99) (by omega) (by omega) (by omega)) ?_
  refine lv_if_eq (tgt := 15) hx hb dX8_hold_8 (by decide) (fun h => absurd h (by decide)) (fun _ => ?_)
  refine lv_iconst (v := 0) hx hb dX8_hold_11 (by decide) ?_
  refine lv_goto (tgt := 16) hx hb dX8_hold_12 (by decide) ?_
  refine kv_i (As := [.int 0]) (rest := []) (wr := [(m1, .inl (cI, 43, .inl (zArr z))), (m2, .inl (cI, 258, .inl (sArr T)))]) ⟨hx, hb, hml, hown, hts⟩ (kX8_refused l D H.size cI cC cJ cZ cQ m0 m1 m2 m3 m4 m5 m6 sm ln sp tm th lf kp 0) (cwV 1 hts gX8_hold_X8_refused rfl rfl rfl (by decide +kernel) ⟨Nat.le_of_ble_eq_true rfl, Nat.le_of_ble_eq_true rfl⟩) hP hD hK hS hA hN [0] [1, 2] rfl rfl (by decide) (by decide) (by decide) 0 8 rfl rfl rfl rfl hl.1 rfl (Nat.le_of_ble_eq_true rfl) dX8_hold_16 ⟨Nat.zero_le _, Nat.zero_le _⟩ (fun H locs hP hD hS => ?_)
  have hP : va_P D vwCl [(m1, .inl (cI, 43, .inl (zArr z))), (m2, .inl (cI, 258, .inl (sArr T))), (m0, .inr (8, [.ref m1, .ref m2, .int (nI sm), .ref m3, .int (nI ln), .int 0, .ref m4, .int lf, .int kp, .ref m5, .int (nI sp), .ref m6, .int (nI tm)]))] H := hP
  have hD : va_D A [(m1, .inl (cI, 43, .inl (zArr z))), (m2, .inl (cI, 258, .inl (sArr T))), (m0, .inr (8, [.ref m1, .ref m2, .int (nI sm), .ref m3, .int (nI ln), .int 0, .ref m4, .int lf, .int kp, .ref m5, .int (nI sp), .ref m6, .int (nI tm)]))] := hD
  refine k_topi (y := 0) rfl ?_
  refine lv_if_eq (tgt := 24) hx hb dX8_hold_19 (by decide) (fun _ => ?_) (fun h => absurd h (by decide))
  refine lv_aload_n hx hb dX8_hold_24 rfl (lv_at hl 0 rfl) ?_
  refine kv_v (As := []) (rest := []) (wr := []) ⟨hx, hb, hml, hown, hts⟩ (kX8_saveState l D H.size cI cC cJ cZ cQ m0 m1 m2 m3 m4 m5 m6 sm ln sp tm 0 lf kp z T (by first | assumption | omega)) (cwV 0 hts gX8_hold_X8_saveState rfl rfl rfl (by decide +kernel) ⟨Nat.le_of_ble_eq_true rfl, Nat.le_of_ble_eq_true rfl⟩) hP hD hK hS hA hN [2, 0, 1] [] rfl rfl (by decide) (by decide) (by decide) 2 8 rfl rfl rfl rfl hl.1 rfl (Nat.le_of_ble_eq_true rfl) dX8_hold_25 ⟨Nat.zero_le _, Nat.zero_le _⟩ (fun H locs hP hD hS => ?_)
  have hP : va_P D vwCl [(m0, .inr (8, [.ref m1, .ref m2, .int (nI (min (sm + 1) 6)), .ref m3, .int (nI ln), .int 0, .ref m4, .int lf, .int kp, .ref m5, .int (nI sp), .ref m6, .int (nI tm)])), (m1, .inl (cI, 43, .inl (zArr z))), (m2, .inl (cI, 258, .inl (sArr (svS T sm z))))] H := hP
  have hD : va_D A [(m0, .inr (8, [.ref m1, .ref m2, .int (nI (min (sm + 1) 6)), .ref m3, .int (nI ln), .int 0, .ref m4, .int lf, .int kp, .ref m5, .int (nI sp), .ref m6, .int (nI tm)])), (m1, .inl (cI, 43, .inl (zArr z))), (m2, .inl (cI, 258, .inl (sArr (svS T sm z))))] := hD
  refine lv_iconst (v := 0) hx hb dX8_hold_28 (by decide) ?_
  refine lv_istore_n (lv' := [(2, .int 0), (0, .ref m0), (1, .int (nI n))]) hx hb dX8_hold_29 rfl hl (by decide) rfl (fun ls hl => ?_)
  have J30 : ∀ (fuel : Nat) (k : Nat) (hk : k ≤ n) (hm : n - k < fuel) (H : Heap) (locs : List Loc) (hP : va_P D vwCl [(m0, .inr (8, [.ref m1, .ref m2, .int (nI (min (sm + 1) 6)), .ref m3, .int (nI ln), .int 0, .ref m4, .int lf, .int kp, .ref m5, .int (nI sp), .ref m6, .int (nI tm)])), (m1, .inl (cI, 43, .inl (zArr (hItr z.2.2.1 k z.1, z.2.1, z.2.2.1, z.2.2.2.1, z.2.2.2.2.1, z.2.2.2.2.2.1, z.2.2.2.2.2.2.1, z.2.2.2.2.2.2.2.1, z.2.2.2.2.2.2.2.2.1, z.2.2.2.2.2.2.2.2.2.1, z.2.2.2.2.2.2.2.2.2.2)))), (m2, .inl (cI, 258, .inl (sArr (svS T sm z))))] H) (hD : va_D A [(m0, .inr (8, [.ref m1, .ref m2, .int (nI (min (sm + 1) 6)), .ref m3, .int (nI ln), .int 0, .ref m4, .int lf, .int kp, .ref m5, .int (nI sp), .ref m6, .int (nI tm)])), (m1, .inl (cI, 43, .inl (zArr (hItr z.2.2.1 k z.1, z.2.1, z.2.2.1, z.2.2.2.1, z.2.2.2.2.1, z.2.2.2.2.2.1, z.2.2.2.2.2.2.1, z.2.2.2.2.2.2.2.1, z.2.2.2.2.2.2.2.2.1, z.2.2.2.2.2.2.2.2.2.1, z.2.2.2.2.2.2.2.2.2.2)))), (m2, .inl (cI, 258, .inl (sArr (svS T sm z))))]) (hS : va_S A s.heap H locs) (ls : Array Slot) (hl : lv_has ls 3 [(2, .int (nI k)), (0, .ref m0), (1, .int (nI n))]), W p l e rmkX8_hold_ok s m args below meth c H locs 0 0 (MQ below (kQi D (hItr z.2.2.1 n z.1) [(m0, .inr (8, [.ref m1, .ref m2, .int (nI (min (sm + 1) 6)), .ref m3, .int (nI ln), .int 0, .ref m4, .int lf, .int kp, .ref m5, .int (nI sp), .ref m6, .int (nI tm)])), (m1, .inl (cI, 43, .inl (zArr (hItr z.2.2.1 n z.1, z.2.1, z.2.2.1, z.2.2.2.1, z.2.2.2.2.1, z.2.2.2.2.2.1, z.2.2.2.2.2.2.1, z.2.2.2.2.2.2.2.1, z.2.2.2.2.2.2.2.2.1, z.2.2.2.2.2.2.2.2.2.1, z.2.2.2.2.2.2.2.2.2.2)))), (m2, .inl (cI, 258, .inl (sArr (svS T sm z))))] A) args s 0 0 A) (F0 m 30 ls []) := by
    intro fuel
    induction fuel with
    | zero => intro k hk hm; exact absurd hm (Nat.not_lt_zero _)
    | succ fuel ih30 =>
      intro k hk hm H locs hP hD hS ls hl
      refine lv_iload_n hx hb dX8_hold_30 rfl (lv_at hl 0 rfl) ?_
      refine lv_iload_n hx hb dX8_hold_31 rfl (lv_at hl 2 rfl) ?_
      refine lv_icmp_ge (tgt := 62) hx hb dX8_hold_32 (by decide) (fun c_32 => ?_) (fun c_32 => ?_)
      · have c_32 : n ≤ k := (nI_leI (a := n) (b := k) (by omega) (by omega)).mp c_32
        refine lv_aload_n hx hb dX8_hold_62 rfl (lv_at hl 1 rfl) ?_
        refine va_get (D := D) (ci := 8) (v := .ref m1) (C := RX8) (T := TX8) (N := 13) hx hb hts inkX8_hold_ok_8 hown hK hP 0 rfl rfl 0 (by decide) (hts (.fieldLink RX8 7 "WeighingConverterModel" "z" "[I") (List.mem_of_getElem? (i := 1) rfl)) (fun _ h9 => h9) rfl dX8_hold_63 ?_
        refine lv_iconst (v := 0) hx hb dX8_hold_66 (by decide) ?_
        refine k_iald (k := 0) hx hb hK hP 1 0 rfl rfl (by omega) (by decide) dX8_hold_67 ?_
        refine k_topi (y := hItr z.2.2.1 k z.1) rfl ?_
        have hk9 : k = n := by omega
        subst hk9
        have hP9 := hP.sub (ws' := [(m0, .inr (8, [.ref m1, .ref m2, .int (nI (min (sm + 1) 6)), .ref m3, .int (nI ln), .int 0, .ref m4, .int lf, .int kp, .ref m5, .int (nI sp), .ref m6, .int (nI tm)])), (m1, .inl (cI, 43, .inl (zArr (hItr z.2.2.1 k z.1, z.2.1, z.2.2.1, z.2.2.2.1, z.2.2.2.2.1, z.2.2.2.2.2.1, z.2.2.2.2.2.2.1, z.2.2.2.2.2.2.2.1, z.2.2.2.2.2.2.2.2.1, z.2.2.2.2.2.2.2.2.2.1, z.2.2.2.2.2.2.2.2.2.2)))), (m2, .inl (cI, 258, .inl (sArr (svS T sm z))))]) [0, 1, 2] rfl
        have hD9 := hD.sub (ws' := [(m0, .inr (8, [.ref m1, .ref m2, .int (nI (min (sm + 1) 6)), .ref m3, .int (nI ln), .int 0, .ref m4, .int lf, .int kp, .ref m5, .int (nI sp), .ref m6, .int (nI tm)])), (m1, .inl (cI, 43, .inl (zArr (hItr z.2.2.1 k z.1, z.2.1, z.2.2.1, z.2.2.2.1, z.2.2.2.2.1, z.2.2.2.2.2.1, z.2.2.2.2.2.2.1, z.2.2.2.2.2.2.2.1, z.2.2.2.2.2.2.2.2.1, z.2.2.2.2.2.2.2.2.2.1, z.2.2.2.2.2.2.2.2.2.2)))), (m2, .inl (cI, 258, .inl (sArr (svS T sm z))))]) [0, 1, 2] (by decide) rfl
        exact kr_i (v := hItr z.2.2.1 k z.1) hx hb hr hlocks hP9 hD9 hS rfl dX8_hold_68
      · have c_32 : ¬ n ≤ k := fun h => c_32 ((nI_leI (a := n) (b := k) (by omega) (by omega)).mpr h)
        refine lv_aload_n hx hb dX8_hold_35 rfl (lv_at hl 1 rfl) ?_
        refine va_get (D := D) (ci := 8) (v := .ref m1) (C := RX8) (T := TX8) (N := 13) hx hb hts inkX8_hold_ok_8 hown hK hP 0 rfl rfl 0 (by decide) (hts (.fieldLink RX8 7 "WeighingConverterModel" "z" "[I") (List.mem_of_getElem? (i := 1) rfl)) (fun _ h9 => h9) rfl dX8_hold_36 ?_
        refine lv_iconst (v := 0) hx hb dX8_hold_39 (by decide) ?_
        refine lv_aload_n hx hb dX8_hold_40 rfl (lv_at hl 1 rfl) ?_
        refine va_get (D := D) (ci := 8) (v := .ref m1) (C := RX8) (T := TX8) (N := 13) hx hb hts inkX8_hold_ok_8 hown hK hP 0 rfl rfl 0 (by decide) (hts (.fieldLink RX8 7 "WeighingConverterModel" "z" "[I") (List.mem_of_getElem? (i := 1) rfl)) (fun _ h9 => h9) rfl dX8_hold_41 ?_
        refine lv_iconst (v := 0) hx hb dX8_hold_44 (by decide) ?_
        refine k_iald (k := 0) hx hb hK hP 1 0 rfl rfl (by omega) (by decide) dX8_hold_45 ?_
        refine k_topi (y := hItr z.2.2.1 k z.1) rfl ?_
        refine lv_aload_n hx hb dX8_hold_46 rfl (lv_at hl 1 rfl) ?_
        refine va_get (D := D) (ci := 8) (v := .ref m1) (C := RX8) (T := TX8) (N := 13) hx hb hts inkX8_hold_ok_8 hown hK hP 0 rfl rfl 0 (by decide) (hts (.fieldLink RX8 7 "WeighingConverterModel" "z" "[I") (List.mem_of_getElem? (i := 1) rfl)) (fun _ h9 => h9) rfl dX8_hold_47 ?_
        refine lv_iconst (v := 2) hx hb dX8_hold_50 (by decide) ?_
        refine k_iald (k := 2) hx hb hK hP 1 0 rfl rfl (by omega) (by decide) dX8_hold_51 ?_
        refine k_topi (y := z.2.2.1) rfl ?_
        refine ks_i0 (As := [.int (hItr z.2.2.1 k z.1), .int z.2.2.1]) (rest := [.int 0, .ref m1]) ⟨hx, hb, hml, hown, hts⟩ (kX8_held l (hItr z.2.2.1 k z.1) z.2.2.1) (va_cwS 2 hts gX8_hold_X8_held rfl rfl rfl (by decide +kernel) ⟨Nat.le_of_ble_eq_true rfl, Nat.le_of_ble_eq_true rfl⟩) hP hS rfl hl.1 rfl (Nat.le_of_ble_eq_true rfl) dX8_hold_52 ⟨Nat.zero_le _, Nat.zero_le _⟩ (fun H locs hP hS => ?_)
        refine k_iast (k := 0) hx hb hK hP hD hS 1 0 rfl rfl (by omega) (by decide) dX8_hold_55 (fun H locs hP hD hS => ?_)
        have hP : va_P D vwCl [(m0, .inr (8, [.ref m1, .ref m2, .int (nI (min (sm + 1) 6)), .ref m3, .int (nI ln), .int 0, .ref m4, .int lf, .int kp, .ref m5, .int (nI sp), .ref m6, .int (nI tm)])), (m1, .inl (cI, 43, .inl (upd (zArr (hItr z.2.2.1 k z.1, z.2.1, z.2.2.1, z.2.2.2.1, z.2.2.2.2.1, z.2.2.2.2.2.1, z.2.2.2.2.2.2.1, z.2.2.2.2.2.2.2.1, z.2.2.2.2.2.2.2.2.1, z.2.2.2.2.2.2.2.2.2.1, z.2.2.2.2.2.2.2.2.2.2)) 0 (hTick (hItr z.2.2.1 k z.1) z.2.2.1)))), (m2, .inl (cI, 258, .inl (sArr (svS T sm z))))] H := hP
        have hD : va_D A [(m0, .inr (8, [.ref m1, .ref m2, .int (nI (min (sm + 1) 6)), .ref m3, .int (nI ln), .int 0, .ref m4, .int lf, .int kp, .ref m5, .int (nI sp), .ref m6, .int (nI tm)])), (m1, .inl (cI, 43, .inl (upd (zArr (hItr z.2.2.1 k z.1, z.2.1, z.2.2.1, z.2.2.2.1, z.2.2.2.2.1, z.2.2.2.2.2.1, z.2.2.2.2.2.2.1, z.2.2.2.2.2.2.2.1, z.2.2.2.2.2.2.2.2.1, z.2.2.2.2.2.2.2.2.2.1, z.2.2.2.2.2.2.2.2.2.2)) 0 (hTick (hItr z.2.2.1 k z.1) z.2.2.1)))), (m2, .inl (cI, 258, .inl (sArr (svS T sm z))))] := hD
        have hP := k_arr hP 1 rfl (g := zArr (hTick (hItr z.2.2.1 k z.1) z.2.2.1, z.2.1, z.2.2.1, z.2.2.2.1, z.2.2.2.2.1, z.2.2.2.2.2.1, z.2.2.2.2.2.2.1, z.2.2.2.2.2.2.2.1, z.2.2.2.2.2.2.2.2.1, z.2.2.2.2.2.2.2.2.2.1, z.2.2.2.2.2.2.2.2.2.2)) (fun j _ => zArr_s0 (hItr z.2.2.1 k z.1, z.2.1, z.2.2.1, z.2.2.2.1, z.2.2.2.2.1, z.2.2.2.2.2.1, z.2.2.2.2.2.2.1, z.2.2.2.2.2.2.2.1, z.2.2.2.2.2.2.2.2.1, z.2.2.2.2.2.2.2.2.2.1, z.2.2.2.2.2.2.2.2.2.2) _ j)
        have hD := hD.set (p := 1) (e := .inl (cI, 43, .inl (zArr (hTick (hItr z.2.2.1 k z.1) z.2.2.1, z.2.1, z.2.2.1, z.2.2.2.1, z.2.2.2.2.1, z.2.2.2.2.2.1, z.2.2.2.2.2.2.1, z.2.2.2.2.2.2.2.1, z.2.2.2.2.2.2.2.2.1, z.2.2.2.2.2.2.2.2.2.1, z.2.2.2.2.2.2.2.2.2.2)))) rfl
        have hP : va_P D vwCl [(m0, .inr (8, [.ref m1, .ref m2, .int (nI (min (sm + 1) 6)), .ref m3, .int (nI ln), .int 0, .ref m4, .int lf, .int kp, .ref m5, .int (nI sp), .ref m6, .int (nI tm)])), (m1, .inl (cI, 43, .inl (zArr (hTick (hItr z.2.2.1 k z.1) z.2.2.1, z.2.1, z.2.2.1, z.2.2.2.1, z.2.2.2.2.1, z.2.2.2.2.2.1, z.2.2.2.2.2.2.1, z.2.2.2.2.2.2.2.1, z.2.2.2.2.2.2.2.2.1, z.2.2.2.2.2.2.2.2.2.1, z.2.2.2.2.2.2.2.2.2.2)))), (m2, .inl (cI, 258, .inl (sArr (svS T sm z))))] H := hP
        have hD : va_D A [(m0, .inr (8, [.ref m1, .ref m2, .int (nI (min (sm + 1) 6)), .ref m3, .int (nI ln), .int 0, .ref m4, .int lf, .int kp, .ref m5, .int (nI sp), .ref m6, .int (nI tm)])), (m1, .inl (cI, 43, .inl (zArr (hTick (hItr z.2.2.1 k z.1) z.2.2.1, z.2.1, z.2.2.1, z.2.2.2.1, z.2.2.2.2.1, z.2.2.2.2.2.1, z.2.2.2.2.2.2.1, z.2.2.2.2.2.2.2.1, z.2.2.2.2.2.2.2.2.1, z.2.2.2.2.2.2.2.2.2.1, z.2.2.2.2.2.2.2.2.2.2)))), (m2, .inl (cI, 258, .inl (sArr (svS T sm z))))] := hD
        refine lv_iinc (v := nI (k + 1)) (lv' := [(2, .int (nI (k + 1))), (0, .ref m0), (1, .int (nI n))]) hx hb dX8_hold_56 hl (k := 0) rfl (by exact k_inc k) (by decide) rfl (fun ls hl => ?_)
        refine lv_goto (tgt := 30) hx hb dX8_hold_59 (by decide) ?_
        exact ih30 (k + 1) (by first | assumption | omega) (by omega) _ _ (hP.sub [0, 1, 2] rfl) (hD.sub [0, 1, 2] (by decide) rfl) hS _ (lv_sub hl [0, 1, 2] rfl)
  exact J30 (n - 0 + 1) 0 (by first | assumption | omega) (Nat.lt_succ_self _) _ _ (hP.sub [0, 1, 2] rfl) (hD.sub [0, 1, 2] (by decide) rfl) hS _ (lv_sub hl [0, 1, 2] rfl)

theorem inkX8_sample_ok_8 : ∀ w ∈ wsX80, w ∈ wsX8_sample := fun _ h => List.mem_cons_of_mem _ (List.mem_append_right _ h)
abbrev rmkX8_sample_ok : Room := { frames := 2, cells := 0, slots := 0, locals := 45 }
set_option maxHeartbeats 4000000 in
set_option maxRecDepth 100000 in
theorem kX8_sample_ok (l : Launch) (D : va_G) (sz : Nat) (cI : ClassId) (cC : ClassId) (cJ : ClassId) (cZ : ClassId) (cQ : ClassId) (m0 : Nat) (m1 : Nat) (m2 : Nat) (m3 : Nat) (m4 : Nat) (m5 : Nat) (m6 : Nat) (sm : Nat) (ln : Nat) (sp : Nat) (tm : Nat) (th : Int32) (lf : Int32) (kp : Int32) (z : StV) (T : Nat → StV) (n : Nat) (inp : Int32) (hsm : sm ≤ 6) (hn1 : 1 ≤ n) (hn2 : n ≤ 99) (hi1 : ¬ inp < 0) (hi2 : inp ≤ 65535) : Met l yX8_sample wsX8_sample rmkX8_sample_ok (va_Pc [.ref m0, .int inp, .int (nI n)] (kPre D sz [(m0, .inr (8, [.ref m1, .ref m2, .int (nI sm), .ref m3, .int (nI ln), .int th, .ref m4, .int lf, .int kp, .ref m5, .int (nI sp), .ref m6, .int (nI tm)])), (m1, .inl (cI, 43, .inl (zArr z))), (m2, .inl (cI, 258, .inl (sArr T)))] (kT cI cC cJ cZ cQ))) (kQi D (sItr inp z.2.1 n z.1) [(m0, .inr (8, [.ref m1, .ref m2, .int (nI (min (sm + 1) 6)), .ref m3, .int (nI ln), .int 0, .ref m4, .int lf, .int kp, .ref m5, .int (nI sp), .ref m6, .int (nI tm)])), (m1, .inl (cI, 43, .inl (zArr (sItr inp z.2.1 n z.1, z.2.1, z.2.2.1, z.2.2.2.1, z.2.2.2.2.1, z.2.2.2.2.2.1, z.2.2.2.2.2.2.1, z.2.2.2.2.2.2.2.1, z.2.2.2.2.2.2.2.2.1, z.2.2.2.2.2.2.2.2.2.1, z.2.2.2.2.2.2.2.2.2.2)))), (m2, .inl (cI, 258, .inl (sArr (svS T sm z))))] (va_A [(m0, .inr (8, [.ref m1, .ref m2, .int (nI sm), .ref m3, .int (nI ln), .int th, .ref m4, .int lf, .int kp, .ref m5, .int (nI sp), .ref m6, .int (nI tm)])), (m1, .inl (cI, 43, .inl (zArr z))), (m2, .inl (cI, 258, .inl (sArr T)))] sz)) 0 0 (va_A [(m0, .inr (8, [.ref m1, .ref m2, .int (nI sm), .ref m3, .int (nI ln), .int th, .ref m4, .int lf, .int kp, .ref m5, .int (nI sp), .ref m6, .int (nI tm)])), (m1, .inl (cI, 43, .inl (zArr z))), (m2, .inl (cI, 258, .inl (sArr T)))] sz) := by
  refine k_met (Qf := kQi D (sItr inp z.2.1 n z.1) [(m0, .inr (8, [.ref m1, .ref m2, .int (nI (min (sm + 1) 6)), .ref m3, .int (nI ln), .int 0, .ref m4, .int lf, .int kp, .ref m5, .int (nI sp), .ref m6, .int (nI tm)])), (m1, .inl (cI, 43, .inl (zArr (sItr inp z.2.1 n z.1, z.2.1, z.2.2.1, z.2.2.2.1, z.2.2.2.2.1, z.2.2.2.2.2.1, z.2.2.2.2.2.2.1, z.2.2.2.2.2.2.2.1, z.2.2.2.2.2.2.2.2.1, z.2.2.2.2.2.2.2.2.2.1, z.2.2.2.2.2.2.2.2.2.2)))), (m2, .inl (cI, 258, .inl (sArr (svS T sm z))))]) (cc := cX8_sample) (maxL := 4) (ret := (some .int)) (own := RX8) (by decide) rfl (Nat.le_of_ble_eq_true rfl) rfl ?_
  intro p e s m args below meth c ls A H locs hx hb hr hts hown hlocks hml hin hsz hP hK hD hA hS hN hl
  have hl : lv_has ls 4 [(0, .ref m0), (1, .int inp), (2, .int (nI n))] := hl
  refine lv_aload_n hx hb dX8_sample_0 rfl (lv_at hl 0 rfl) ?_
  refine lv_iload_n hx hb dX8_sample_1 rfl (lv_at hl 1 rfl) ?_
  refine lv_iconst (v := 0) hx hb dX8_sample_2 (by decide) ?_
  refine lv_ldc hx hb hown (hts (.constant RX8 48 (65535)) (List.mem_of_getElem? (i := 1) rfl)) dX8_sample_3 ?_
  refine ks_i0 (As := [.int inp, .int 0, .int 65535]) (rest := [.ref m0]) ⟨hx, hb, hml, hown, hts⟩ (kX8_in l inp 0 65535) (va_cwS 3 hts gX8_sample_X8_in rfl rfl rfl (by decide +kernel) ⟨Nat.le_of_ble_eq_true rfl, Nat.le_of_ble_eq_true rfl⟩) hP hS rfl hl.1 rfl (Nat.le_of_ble_eq_true rfl) dX8_sample_5 ⟨Nat.zero_le _, Nat.zero_le _⟩ (fun H locs hP hS => ?_)
  refine k_topi (y := 1) (inM_1 hi1 hi2) ?_
  refine lv_if_eq (tgt := 25) hx hb dX8_sample_8 (by decide) (fun h => absurd h (by decide)) (fun _ => ?_)
  refine lv_iload_n hx hb dX8_sample_11 rfl (lv_at hl 2 rfl) ?_
  refine lv_iconst (v := 1) hx hb dX8_sample_12 (by decide) ?_
  refine lv_bipush (v := 99) hx hb dX8_sample_13 (by decide) ?_
  refine ks_i0 (As := [.int (nI n), .int 1, .int 99]) (rest := [.ref m0]) ⟨hx, hb, hml, hown, hts⟩ (kX8_in l (nI n) 1 99) (va_cwS 3 hts gX8_sample_X8_in rfl rfl rfl (by decide +kernel) ⟨Nat.le_of_ble_eq_true rfl, Nat.le_of_ble_eq_true rfl⟩) hP hS rfl hl.1 rfl (Nat.le_of_ble_eq_true rfl) dX8_sample_15 ⟨Nat.zero_le _, Nat.zero_le _⟩ (fun H locs hP hS => ?_)
  refine k_topi (y := 1) (inM_n (a := 1) (b := 99) (by omega) (by omega) (by omega)) ?_
  refine lv_if_eq (tgt := 25) hx hb dX8_sample_18 (by decide) (fun h => absurd h (by decide)) (fun _ => ?_)
  refine lv_iconst (v := 0) hx hb dX8_sample_21 (by decide) ?_
  refine lv_goto (tgt := 26) hx hb dX8_sample_22 (by decide) ?_
  refine kv_i (As := [.int 0]) (rest := []) (wr := [(m1, .inl (cI, 43, .inl (zArr z))), (m2, .inl (cI, 258, .inl (sArr T)))]) ⟨hx, hb, hml, hown, hts⟩ (kX8_refused l D H.size cI cC cJ cZ cQ m0 m1 m2 m3 m4 m5 m6 sm ln sp tm th lf kp 0) (cwV 1 hts gX8_sample_X8_refused rfl rfl rfl (by decide +kernel) ⟨Nat.le_of_ble_eq_true rfl, Nat.le_of_ble_eq_true rfl⟩) hP hD hK hS hA hN [0] [1, 2] rfl rfl (by decide) (by decide) (by decide) 0 8 rfl rfl rfl rfl hl.1 rfl (Nat.le_of_ble_eq_true rfl) dX8_sample_26 ⟨Nat.zero_le _, Nat.zero_le _⟩ (fun H locs hP hD hS => ?_)
  have hP : va_P D vwCl [(m1, .inl (cI, 43, .inl (zArr z))), (m2, .inl (cI, 258, .inl (sArr T))), (m0, .inr (8, [.ref m1, .ref m2, .int (nI sm), .ref m3, .int (nI ln), .int 0, .ref m4, .int lf, .int kp, .ref m5, .int (nI sp), .ref m6, .int (nI tm)]))] H := hP
  have hD : va_D A [(m1, .inl (cI, 43, .inl (zArr z))), (m2, .inl (cI, 258, .inl (sArr T))), (m0, .inr (8, [.ref m1, .ref m2, .int (nI sm), .ref m3, .int (nI ln), .int 0, .ref m4, .int lf, .int kp, .ref m5, .int (nI sp), .ref m6, .int (nI tm)]))] := hD
  refine k_topi (y := 0) rfl ?_
  refine lv_if_eq (tgt := 34) hx hb dX8_sample_29 (by decide) (fun _ => ?_) (fun h => absurd h (by decide))
  refine lv_aload_n hx hb dX8_sample_34 rfl (lv_at hl 0 rfl) ?_
  refine kv_v (As := []) (rest := []) (wr := []) ⟨hx, hb, hml, hown, hts⟩ (kX8_saveState l D H.size cI cC cJ cZ cQ m0 m1 m2 m3 m4 m5 m6 sm ln sp tm 0 lf kp z T (by first | assumption | omega)) (cwV 0 hts gX8_sample_X8_saveState rfl rfl rfl (by decide +kernel) ⟨Nat.le_of_ble_eq_true rfl, Nat.le_of_ble_eq_true rfl⟩) hP hD hK hS hA hN [2, 0, 1] [] rfl rfl (by decide) (by decide) (by decide) 2 8 rfl rfl rfl rfl hl.1 rfl (Nat.le_of_ble_eq_true rfl) dX8_sample_35 ⟨Nat.zero_le _, Nat.zero_le _⟩ (fun H locs hP hD hS => ?_)
  have hP : va_P D vwCl [(m0, .inr (8, [.ref m1, .ref m2, .int (nI (min (sm + 1) 6)), .ref m3, .int (nI ln), .int 0, .ref m4, .int lf, .int kp, .ref m5, .int (nI sp), .ref m6, .int (nI tm)])), (m1, .inl (cI, 43, .inl (zArr z))), (m2, .inl (cI, 258, .inl (sArr (svS T sm z))))] H := hP
  have hD : va_D A [(m0, .inr (8, [.ref m1, .ref m2, .int (nI (min (sm + 1) 6)), .ref m3, .int (nI ln), .int 0, .ref m4, .int lf, .int kp, .ref m5, .int (nI sp), .ref m6, .int (nI tm)])), (m1, .inl (cI, 43, .inl (zArr z))), (m2, .inl (cI, 258, .inl (sArr (svS T sm z))))] := hD
  refine lv_iconst (v := 0) hx hb dX8_sample_38 (by decide) ?_
  refine lv_istore_n (lv' := [(3, .int 0), (0, .ref m0), (1, .int inp), (2, .int (nI n))]) hx hb dX8_sample_39 rfl hl (by decide) rfl (fun ls hl => ?_)
  have J40 : ∀ (fuel : Nat) (k : Nat) (hk : k ≤ n) (hm : n - k < fuel) (H : Heap) (locs : List Loc) (hP : va_P D vwCl [(m0, .inr (8, [.ref m1, .ref m2, .int (nI (min (sm + 1) 6)), .ref m3, .int (nI ln), .int 0, .ref m4, .int lf, .int kp, .ref m5, .int (nI sp), .ref m6, .int (nI tm)])), (m1, .inl (cI, 43, .inl (zArr (sItr inp z.2.1 k z.1, z.2.1, z.2.2.1, z.2.2.2.1, z.2.2.2.2.1, z.2.2.2.2.2.1, z.2.2.2.2.2.2.1, z.2.2.2.2.2.2.2.1, z.2.2.2.2.2.2.2.2.1, z.2.2.2.2.2.2.2.2.2.1, z.2.2.2.2.2.2.2.2.2.2)))), (m2, .inl (cI, 258, .inl (sArr (svS T sm z))))] H) (hD : va_D A [(m0, .inr (8, [.ref m1, .ref m2, .int (nI (min (sm + 1) 6)), .ref m3, .int (nI ln), .int 0, .ref m4, .int lf, .int kp, .ref m5, .int (nI sp), .ref m6, .int (nI tm)])), (m1, .inl (cI, 43, .inl (zArr (sItr inp z.2.1 k z.1, z.2.1, z.2.2.1, z.2.2.2.1, z.2.2.2.2.1, z.2.2.2.2.2.1, z.2.2.2.2.2.2.1, z.2.2.2.2.2.2.2.1, z.2.2.2.2.2.2.2.2.1, z.2.2.2.2.2.2.2.2.2.1, z.2.2.2.2.2.2.2.2.2.2)))), (m2, .inl (cI, 258, .inl (sArr (svS T sm z))))]) (hS : va_S A s.heap H locs) (ls : Array Slot) (hl : lv_has ls 4 [(3, .int (nI k)), (0, .ref m0), (1, .int inp), (2, .int (nI n))]), W p l e rmkX8_sample_ok s m args below meth c H locs 0 0 (MQ below (kQi D (sItr inp z.2.1 n z.1) [(m0, .inr (8, [.ref m1, .ref m2, .int (nI (min (sm + 1) 6)), .ref m3, .int (nI ln), .int 0, .ref m4, .int lf, .int kp, .ref m5, .int (nI sp), .ref m6, .int (nI tm)])), (m1, .inl (cI, 43, .inl (zArr (sItr inp z.2.1 n z.1, z.2.1, z.2.2.1, z.2.2.2.1, z.2.2.2.2.1, z.2.2.2.2.2.1, z.2.2.2.2.2.2.1, z.2.2.2.2.2.2.2.1, z.2.2.2.2.2.2.2.2.1, z.2.2.2.2.2.2.2.2.2.1, z.2.2.2.2.2.2.2.2.2.2)))), (m2, .inl (cI, 258, .inl (sArr (svS T sm z))))] A) args s 0 0 A) (F0 m 40 ls []) := by
    intro fuel
    induction fuel with
    | zero => intro k hk hm; exact absurd hm (Nat.not_lt_zero _)
    | succ fuel ih40 =>
      intro k hk hm H locs hP hD hS ls hl
      refine lv_iload_n hx hb dX8_sample_40 rfl (lv_at hl 0 rfl) ?_
      refine lv_iload_n hx hb dX8_sample_41 rfl (lv_at hl 3 rfl) ?_
      refine lv_icmp_ge (tgt := 68) hx hb dX8_sample_42 (by decide) (fun c_42 => ?_) (fun c_42 => ?_)
      · have c_42 : n ≤ k := (nI_leI (a := n) (b := k) (by omega) (by omega)).mp c_42
        refine lv_aload_n hx hb dX8_sample_68 rfl (lv_at hl 1 rfl) ?_
        refine va_get (D := D) (ci := 8) (v := .ref m1) (C := RX8) (T := TX8) (N := 13) hx hb hts inkX8_sample_ok_8 hown hK hP 0 rfl rfl 0 (by decide) (hts (.fieldLink RX8 7 "WeighingConverterModel" "z" "[I") (List.mem_of_getElem? (i := 2) rfl)) (fun _ h9 => h9) rfl dX8_sample_69 ?_
        refine lv_iconst (v := 0) hx hb dX8_sample_72 (by decide) ?_
        refine k_iald (k := 0) hx hb hK hP 1 0 rfl rfl (by omega) (by decide) dX8_sample_73 ?_
        refine k_topi (y := sItr inp z.2.1 k z.1) rfl ?_
        have hk9 : k = n := by omega
        subst hk9
        have hP9 := hP.sub (ws' := [(m0, .inr (8, [.ref m1, .ref m2, .int (nI (min (sm + 1) 6)), .ref m3, .int (nI ln), .int 0, .ref m4, .int lf, .int kp, .ref m5, .int (nI sp), .ref m6, .int (nI tm)])), (m1, .inl (cI, 43, .inl (zArr (sItr inp z.2.1 k z.1, z.2.1, z.2.2.1, z.2.2.2.1, z.2.2.2.2.1, z.2.2.2.2.2.1, z.2.2.2.2.2.2.1, z.2.2.2.2.2.2.2.1, z.2.2.2.2.2.2.2.2.1, z.2.2.2.2.2.2.2.2.2.1, z.2.2.2.2.2.2.2.2.2.2)))), (m2, .inl (cI, 258, .inl (sArr (svS T sm z))))]) [0, 1, 2] rfl
        have hD9 := hD.sub (ws' := [(m0, .inr (8, [.ref m1, .ref m2, .int (nI (min (sm + 1) 6)), .ref m3, .int (nI ln), .int 0, .ref m4, .int lf, .int kp, .ref m5, .int (nI sp), .ref m6, .int (nI tm)])), (m1, .inl (cI, 43, .inl (zArr (sItr inp z.2.1 k z.1, z.2.1, z.2.2.1, z.2.2.2.1, z.2.2.2.2.1, z.2.2.2.2.2.1, z.2.2.2.2.2.2.1, z.2.2.2.2.2.2.2.1, z.2.2.2.2.2.2.2.2.1, z.2.2.2.2.2.2.2.2.2.1, z.2.2.2.2.2.2.2.2.2.2)))), (m2, .inl (cI, 258, .inl (sArr (svS T sm z))))]) [0, 1, 2] (by decide) rfl
        exact kr_i (v := sItr inp z.2.1 k z.1) hx hb hr hlocks hP9 hD9 hS rfl dX8_sample_74
      · have c_42 : ¬ n ≤ k := fun h => c_42 ((nI_leI (a := n) (b := k) (by omega) (by omega)).mpr h)
        refine lv_aload_n hx hb dX8_sample_45 rfl (lv_at hl 1 rfl) ?_
        refine va_get (D := D) (ci := 8) (v := .ref m1) (C := RX8) (T := TX8) (N := 13) hx hb hts inkX8_sample_ok_8 hown hK hP 0 rfl rfl 0 (by decide) (hts (.fieldLink RX8 7 "WeighingConverterModel" "z" "[I") (List.mem_of_getElem? (i := 2) rfl)) (fun _ h9 => h9) rfl dX8_sample_46 ?_
        refine lv_iconst (v := 0) hx hb dX8_sample_49 (by decide) ?_
        refine lv_aload_n hx hb dX8_sample_50 rfl (lv_at hl 1 rfl) ?_
        refine lv_aload_n hx hb dX8_sample_51 rfl (lv_at hl 1 rfl) ?_
        refine va_get (D := D) (ci := 8) (v := .ref m1) (C := RX8) (T := TX8) (N := 13) hx hb hts inkX8_sample_ok_8 hown hK hP 0 rfl rfl 0 (by decide) (hts (.fieldLink RX8 7 "WeighingConverterModel" "z" "[I") (List.mem_of_getElem? (i := 2) rfl)) (fun _ h9 => h9) rfl dX8_sample_52 ?_
        refine lv_iconst (v := 0) hx hb dX8_sample_55 (by decide) ?_
        refine k_iald (k := 0) hx hb hK hP 1 0 rfl rfl (by omega) (by decide) dX8_sample_56 ?_
        refine k_topi (y := sItr inp z.2.1 k z.1) rfl ?_
        refine lv_iload_n hx hb dX8_sample_57 rfl (lv_at hl 2 rfl) ?_
        refine kv_i (As := [.int (sItr inp z.2.1 k z.1), .int inp]) (rest := [.int 0, .ref m1]) (wr := [(m2, .inl (cI, 258, .inl (sArr (svS T sm z))))]) ⟨hx, hb, hml, hown, hts⟩ (kX8_sampled l D H.size cI cC cJ cZ cQ m0 m1 m2 m3 m4 m5 m6 (min (sm + 1) 6) ln sp tm 0 lf kp (sItr inp z.2.1 k z.1, z.2.1, z.2.2.1, z.2.2.2.1, z.2.2.2.2.1, z.2.2.2.2.2.1, z.2.2.2.2.2.2.1, z.2.2.2.2.2.2.2.1, z.2.2.2.2.2.2.2.2.1, z.2.2.2.2.2.2.2.2.2.1, z.2.2.2.2.2.2.2.2.2.2) (sItr inp z.2.1 k z.1) inp) (cwV 2 hts gX8_sample_X8_sampled rfl rfl rfl (by decide +kernel) ⟨Nat.le_of_ble_eq_true rfl, Nat.le_of_ble_eq_true rfl⟩) hP hD hK hS hA hN [0, 1] [2] rfl rfl (by decide) (by decide) (by decide) 0 8 rfl rfl rfl rfl hl.1 rfl (Nat.le_of_ble_eq_true rfl) dX8_sample_58 ⟨Nat.zero_le _, Nat.zero_le _⟩ (fun H locs hP hD hS => ?_)
        have hP : va_P D vwCl [(m2, .inl (cI, 258, .inl (sArr (svS T sm z)))), (m0, .inr (8, [.ref m1, .ref m2, .int (nI (min (sm + 1) 6)), .ref m3, .int (nI ln), .int 0, .ref m4, .int lf, .int kp, .ref m5, .int (nI sp), .ref m6, .int (nI tm)])), (m1, .inl (cI, 43, .inl (zArr (sItr inp z.2.1 k z.1, z.2.1, z.2.2.1, z.2.2.2.1, z.2.2.2.2.1, z.2.2.2.2.2.1, z.2.2.2.2.2.2.1, z.2.2.2.2.2.2.2.1, z.2.2.2.2.2.2.2.2.1, z.2.2.2.2.2.2.2.2.2.1, z.2.2.2.2.2.2.2.2.2.2))))] H := hP
        have hD : va_D A [(m2, .inl (cI, 258, .inl (sArr (svS T sm z)))), (m0, .inr (8, [.ref m1, .ref m2, .int (nI (min (sm + 1) 6)), .ref m3, .int (nI ln), .int 0, .ref m4, .int lf, .int kp, .ref m5, .int (nI sp), .ref m6, .int (nI tm)])), (m1, .inl (cI, 43, .inl (zArr (sItr inp z.2.1 k z.1, z.2.1, z.2.2.1, z.2.2.2.1, z.2.2.2.2.1, z.2.2.2.2.2.1, z.2.2.2.2.2.2.1, z.2.2.2.2.2.2.2.1, z.2.2.2.2.2.2.2.2.1, z.2.2.2.2.2.2.2.2.2.1, z.2.2.2.2.2.2.2.2.2.2))))] := hD
        refine k_iast (k := 0) hx hb hK hP hD hS 2 0 rfl rfl (by omega) (by decide) dX8_sample_61 (fun H locs hP hD hS => ?_)
        have hP : va_P D vwCl [(m2, .inl (cI, 258, .inl (sArr (svS T sm z)))), (m0, .inr (8, [.ref m1, .ref m2, .int (nI (min (sm + 1) 6)), .ref m3, .int (nI ln), .int 0, .ref m4, .int lf, .int kp, .ref m5, .int (nI sp), .ref m6, .int (nI tm)])), (m1, .inl (cI, 43, .inl (upd (zArr (sItr inp z.2.1 k z.1, z.2.1, z.2.2.1, z.2.2.2.1, z.2.2.2.2.1, z.2.2.2.2.2.1, z.2.2.2.2.2.2.1, z.2.2.2.2.2.2.2.1, z.2.2.2.2.2.2.2.2.1, z.2.2.2.2.2.2.2.2.2.1, z.2.2.2.2.2.2.2.2.2.2)) 0 (sTick (sItr inp z.2.1 k z.1) inp (sItr inp z.2.1 k z.1, z.2.1, z.2.2.1, z.2.2.2.1, z.2.2.2.2.1, z.2.2.2.2.2.1, z.2.2.2.2.2.2.1, z.2.2.2.2.2.2.2.1, z.2.2.2.2.2.2.2.2.1, z.2.2.2.2.2.2.2.2.2.1, z.2.2.2.2.2.2.2.2.2.2).2.1))))] H := hP
        have hD : va_D A [(m2, .inl (cI, 258, .inl (sArr (svS T sm z)))), (m0, .inr (8, [.ref m1, .ref m2, .int (nI (min (sm + 1) 6)), .ref m3, .int (nI ln), .int 0, .ref m4, .int lf, .int kp, .ref m5, .int (nI sp), .ref m6, .int (nI tm)])), (m1, .inl (cI, 43, .inl (upd (zArr (sItr inp z.2.1 k z.1, z.2.1, z.2.2.1, z.2.2.2.1, z.2.2.2.2.1, z.2.2.2.2.2.1, z.2.2.2.2.2.2.1, z.2.2.2.2.2.2.2.1, z.2.2.2.2.2.2.2.2.1, z.2.2.2.2.2.2.2.2.2.1, z.2.2.2.2.2.2.2.2.2.2)) 0 (sTick (sItr inp z.2.1 k z.1) inp (sItr inp z.2.1 k z.1, z.2.1, z.2.2.1, z.2.2.2.1, z.2.2.2.2.1, z.2.2.2.2.2.1, z.2.2.2.2.2.2.1, z.2.2.2.2.2.2.2.1, z.2.2.2.2.2.2.2.2.1, z.2.2.2.2.2.2.2.2.2.1, z.2.2.2.2.2.2.2.2.2.2).2.1))))] := hD
        have hP := k_arr hP 2 rfl (g := zArr (sTick (sItr inp z.2.1 k z.1) inp (sItr inp z.2.1 k z.1, z.2.1, z.2.2.1, z.2.2.2.1, z.2.2.2.2.1, z.2.2.2.2.2.1, z.2.2.2.2.2.2.1, z.2.2.2.2.2.2.2.1, z.2.2.2.2.2.2.2.2.1, z.2.2.2.2.2.2.2.2.2.1, z.2.2.2.2.2.2.2.2.2.2).2.1, z.2.1, z.2.2.1, z.2.2.2.1, z.2.2.2.2.1, z.2.2.2.2.2.1, z.2.2.2.2.2.2.1, z.2.2.2.2.2.2.2.1, z.2.2.2.2.2.2.2.2.1, z.2.2.2.2.2.2.2.2.2.1, z.2.2.2.2.2.2.2.2.2.2)) (fun j _ => zArr_s0 (sItr inp z.2.1 k z.1, z.2.1, z.2.2.1, z.2.2.2.1, z.2.2.2.2.1, z.2.2.2.2.2.1, z.2.2.2.2.2.2.1, z.2.2.2.2.2.2.2.1, z.2.2.2.2.2.2.2.2.1, z.2.2.2.2.2.2.2.2.2.1, z.2.2.2.2.2.2.2.2.2.2) _ j)
        have hD := hD.set (p := 2) (e := .inl (cI, 43, .inl (zArr (sTick (sItr inp z.2.1 k z.1) inp (sItr inp z.2.1 k z.1, z.2.1, z.2.2.1, z.2.2.2.1, z.2.2.2.2.1, z.2.2.2.2.2.1, z.2.2.2.2.2.2.1, z.2.2.2.2.2.2.2.1, z.2.2.2.2.2.2.2.2.1, z.2.2.2.2.2.2.2.2.2.1, z.2.2.2.2.2.2.2.2.2.2).2.1, z.2.1, z.2.2.1, z.2.2.2.1, z.2.2.2.2.1, z.2.2.2.2.2.1, z.2.2.2.2.2.2.1, z.2.2.2.2.2.2.2.1, z.2.2.2.2.2.2.2.2.1, z.2.2.2.2.2.2.2.2.2.1, z.2.2.2.2.2.2.2.2.2.2)))) rfl
        have hP : va_P D vwCl [(m2, .inl (cI, 258, .inl (sArr (svS T sm z)))), (m0, .inr (8, [.ref m1, .ref m2, .int (nI (min (sm + 1) 6)), .ref m3, .int (nI ln), .int 0, .ref m4, .int lf, .int kp, .ref m5, .int (nI sp), .ref m6, .int (nI tm)])), (m1, .inl (cI, 43, .inl (zArr (sTick (sItr inp z.2.1 k z.1) inp (sItr inp z.2.1 k z.1, z.2.1, z.2.2.1, z.2.2.2.1, z.2.2.2.2.1, z.2.2.2.2.2.1, z.2.2.2.2.2.2.1, z.2.2.2.2.2.2.2.1, z.2.2.2.2.2.2.2.2.1, z.2.2.2.2.2.2.2.2.2.1, z.2.2.2.2.2.2.2.2.2.2).2.1, z.2.1, z.2.2.1, z.2.2.2.1, z.2.2.2.2.1, z.2.2.2.2.2.1, z.2.2.2.2.2.2.1, z.2.2.2.2.2.2.2.1, z.2.2.2.2.2.2.2.2.1, z.2.2.2.2.2.2.2.2.2.1, z.2.2.2.2.2.2.2.2.2.2))))] H := hP
        have hD : va_D A [(m2, .inl (cI, 258, .inl (sArr (svS T sm z)))), (m0, .inr (8, [.ref m1, .ref m2, .int (nI (min (sm + 1) 6)), .ref m3, .int (nI ln), .int 0, .ref m4, .int lf, .int kp, .ref m5, .int (nI sp), .ref m6, .int (nI tm)])), (m1, .inl (cI, 43, .inl (zArr (sTick (sItr inp z.2.1 k z.1) inp (sItr inp z.2.1 k z.1, z.2.1, z.2.2.1, z.2.2.2.1, z.2.2.2.2.1, z.2.2.2.2.2.1, z.2.2.2.2.2.2.1, z.2.2.2.2.2.2.2.1, z.2.2.2.2.2.2.2.2.1, z.2.2.2.2.2.2.2.2.2.1, z.2.2.2.2.2.2.2.2.2.2).2.1, z.2.1, z.2.2.1, z.2.2.2.1, z.2.2.2.2.1, z.2.2.2.2.2.1, z.2.2.2.2.2.2.1, z.2.2.2.2.2.2.2.1, z.2.2.2.2.2.2.2.2.1, z.2.2.2.2.2.2.2.2.2.1, z.2.2.2.2.2.2.2.2.2.2))))] := hD
        refine lv_iinc (v := nI (k + 1)) (lv' := [(3, .int (nI (k + 1))), (0, .ref m0), (1, .int inp), (2, .int (nI n))]) hx hb dX8_sample_62 hl (k := 0) rfl (by exact k_inc k) (by decide) rfl (fun ls hl => ?_)
        refine lv_goto (tgt := 40) hx hb dX8_sample_65 (by decide) ?_
        exact ih40 (k + 1) (by first | assumption | omega) (by omega) _ _ (hP.sub [1, 2, 0] rfl) (hD.sub [1, 2, 0] (by decide) rfl) hS _ (lv_sub hl [0, 1, 2, 3] rfl)
  exact J40 (n - 0 + 1) 0 (by first | assumption | omega) (Nat.lt_succ_self _) _ _ (hP.sub [0, 1, 2] rfl) (hD.sub [0, 1, 2] (by decide) rfl) hS _ (lv_sub hl [0, 1, 2, 3] rfl)

theorem inkX8_setCapacitor_ok_8 : ∀ w ∈ wsX80, w ∈ wsX8_setCapacitor := fun _ h => List.mem_cons_of_mem _ (List.mem_append_right _ h)
abbrev rmkX8_setCapacitor_ok : Room := { frames := 3, cells := 0, slots := 0, locals := 68 }
set_option maxHeartbeats 4000000 in
set_option maxRecDepth 100000 in
theorem kX8_setCapacitor_ok (l : Launch) (D : va_G) (sz : Nat) (cI : ClassId) (cC : ClassId) (cJ : ClassId) (cZ : ClassId) (cQ : ClassId) (m0 : Nat) (m1 : Nat) (m2 : Nat) (m3 : Nat) (m4 : Nat) (m5 : Nat) (m6 : Nat) (sm : Nat) (ln : Nat) (sp : Nat) (tm : Nat) (th : Int32) (lf : Int32) (kp : Int32) (z : StV) (T : Nat → StV) (p1 : Int32) (q1 : Int32) (hsm : sm ≤ 6) (h1 : ¬ p1 < 1) (h2 : p1 ≤ 16) (h3 : ¬ q1 < 0) (h4 : q1 ≤ 64) : Met l yX8_setCapacitor wsX8_setCapacitor rmkX8_setCapacitor_ok (va_Pc [.ref m0, .int p1, .int q1] (kPre D sz [(m0, .inr (8, [.ref m1, .ref m2, .int (nI sm), .ref m3, .int (nI ln), .int th, .ref m4, .int lf, .int kp, .ref m5, .int (nI sp), .ref m6, .int (nI tm)])), (m1, .inl (cI, 43, .inl (zArr z))), (m2, .inl (cI, 258, .inl (sArr T)))] (kT cI cC cJ cZ cQ))) (kQi D z.2.1 [(m0, .inr (8, [.ref m1, .ref m2, .int (nI (min (sm + 1) 6)), .ref m3, .int (nI ln), .int 0, .ref m4, .int lf, .int kp, .ref m5, .int (nI sp), .ref m6, .int (nI tm)])), (m1, .inl (cI, 43, .inl (zArr (z.1, p1, q1, z.2.2.2.1, z.2.2.2.2.1, z.2.2.2.2.2.1, z.2.2.2.2.2.2.1, z.2.2.2.2.2.2.2.1, z.2.2.2.2.2.2.2.2.1, z.2.2.2.2.2.2.2.2.2.1, z.2.2.2.2.2.2.2.2.2.2)))), (m2, .inl (cI, 258, .inl (sArr (svS T sm z))))] (va_A [(m0, .inr (8, [.ref m1, .ref m2, .int (nI sm), .ref m3, .int (nI ln), .int th, .ref m4, .int lf, .int kp, .ref m5, .int (nI sp), .ref m6, .int (nI tm)])), (m1, .inl (cI, 43, .inl (zArr z))), (m2, .inl (cI, 258, .inl (sArr T)))] sz)) 0 0 (va_A [(m0, .inr (8, [.ref m1, .ref m2, .int (nI sm), .ref m3, .int (nI ln), .int th, .ref m4, .int lf, .int kp, .ref m5, .int (nI sp), .ref m6, .int (nI tm)])), (m1, .inl (cI, 43, .inl (zArr z))), (m2, .inl (cI, 258, .inl (sArr T)))] sz) := by
  refine k_met (Qf := kQi D z.2.1 [(m0, .inr (8, [.ref m1, .ref m2, .int (nI (min (sm + 1) 6)), .ref m3, .int (nI ln), .int 0, .ref m4, .int lf, .int kp, .ref m5, .int (nI sp), .ref m6, .int (nI tm)])), (m1, .inl (cI, 43, .inl (zArr (z.1, p1, q1, z.2.2.2.1, z.2.2.2.2.1, z.2.2.2.2.2.1, z.2.2.2.2.2.2.1, z.2.2.2.2.2.2.2.1, z.2.2.2.2.2.2.2.2.1, z.2.2.2.2.2.2.2.2.2.1, z.2.2.2.2.2.2.2.2.2.2)))), (m2, .inl (cI, 258, .inl (sArr (svS T sm z))))]) (cc := cX8_setCapacitor) (maxL := 4) (ret := (some .int)) (own := RX8) (by decide) rfl (Nat.le_of_ble_eq_true rfl) rfl ?_
  intro p e s m args below meth c ls A H locs hx hb hr hts hown hlocks hml hin hsz hP hK hD hA hS hN hl
  have hl : lv_has ls 4 [(0, .ref m0), (1, .int p1), (2, .int q1)] := hl
  refine lv_aload_n hx hb dX8_setCapacitor_0 rfl (lv_at hl 0 rfl) ?_
  refine lv_iload_n hx hb dX8_setCapacitor_1 rfl (lv_at hl 1 rfl) ?_
  refine lv_iconst (v := 1) hx hb dX8_setCapacitor_2 (by decide) ?_
  refine lv_bipush (v := 16) hx hb dX8_setCapacitor_3 (by decide) ?_
  refine ks_i0 (As := [.int p1, .int 1, .int 16]) (rest := [.ref m0]) ⟨hx, hb, hml, hown, hts⟩ (kX8_in l p1 1 16) (va_cwS 3 hts gX8_setCapacitor_X8_in rfl rfl rfl (by decide +kernel) ⟨Nat.le_of_ble_eq_true rfl, Nat.le_of_ble_eq_true rfl⟩) hP hS rfl hl.1 rfl (Nat.le_of_ble_eq_true rfl) dX8_setCapacitor_5 ⟨Nat.zero_le _, Nat.zero_le _⟩ (fun H locs hP hS => ?_)
  refine k_topi (y := 1) (inM_1 h1 h2) ?_
  refine lv_if_eq (tgt := 25) hx hb dX8_setCapacitor_8 (by decide) (fun h => absurd h (by decide)) (fun _ => ?_)
  refine lv_iload_n hx hb dX8_setCapacitor_11 rfl (lv_at hl 2 rfl) ?_
  refine lv_iconst (v := 0) hx hb dX8_setCapacitor_12 (by decide) ?_
  refine lv_bipush (v := 64) hx hb dX8_setCapacitor_13 (by decide) ?_
  refine ks_i0 (As := [.int q1, .int 0, .int 64]) (rest := [.ref m0]) ⟨hx, hb, hml, hown, hts⟩ (kX8_in l q1 0 64) (va_cwS 3 hts gX8_setCapacitor_X8_in rfl rfl rfl (by decide +kernel) ⟨Nat.le_of_ble_eq_true rfl, Nat.le_of_ble_eq_true rfl⟩) hP hS rfl hl.1 rfl (Nat.le_of_ble_eq_true rfl) dX8_setCapacitor_15 ⟨Nat.zero_le _, Nat.zero_le _⟩ (fun H locs hP hS => ?_)
  refine k_topi (y := 1) (inM_1 h3 h4) ?_
  refine lv_if_eq (tgt := 25) hx hb dX8_setCapacitor_18 (by decide) (fun h => absurd h (by decide)) (fun _ => ?_)
  refine lv_iconst (v := 0) hx hb dX8_setCapacitor_21 (by decide) ?_
  refine lv_goto (tgt := 26) hx hb dX8_setCapacitor_22 (by decide) ?_
  refine kv_i (As := [.int 0]) (rest := []) (wr := [(m1, .inl (cI, 43, .inl (zArr z))), (m2, .inl (cI, 258, .inl (sArr T)))]) ⟨hx, hb, hml, hown, hts⟩ (kX8_refused l D H.size cI cC cJ cZ cQ m0 m1 m2 m3 m4 m5 m6 sm ln sp tm th lf kp 0) (cwV 1 hts gX8_setCapacitor_X8_refused rfl rfl rfl (by decide +kernel) ⟨Nat.le_of_ble_eq_true rfl, Nat.le_of_ble_eq_true rfl⟩) hP hD hK hS hA hN [0] [1, 2] rfl rfl (by decide) (by decide) (by decide) 0 8 rfl rfl rfl rfl hl.1 rfl (Nat.le_of_ble_eq_true rfl) dX8_setCapacitor_26 ⟨Nat.zero_le _, Nat.zero_le _⟩ (fun H locs hP hD hS => ?_)
  have hP : va_P D vwCl [(m1, .inl (cI, 43, .inl (zArr z))), (m2, .inl (cI, 258, .inl (sArr T))), (m0, .inr (8, [.ref m1, .ref m2, .int (nI sm), .ref m3, .int (nI ln), .int 0, .ref m4, .int lf, .int kp, .ref m5, .int (nI sp), .ref m6, .int (nI tm)]))] H := hP
  have hD : va_D A [(m1, .inl (cI, 43, .inl (zArr z))), (m2, .inl (cI, 258, .inl (sArr T))), (m0, .inr (8, [.ref m1, .ref m2, .int (nI sm), .ref m3, .int (nI ln), .int 0, .ref m4, .int lf, .int kp, .ref m5, .int (nI sp), .ref m6, .int (nI tm)]))] := hD
  refine k_topi (y := 0) rfl ?_
  refine lv_if_eq (tgt := 34) hx hb dX8_setCapacitor_29 (by decide) (fun _ => ?_) (fun h => absurd h (by decide))
  refine lv_aload_n hx hb dX8_setCapacitor_34 rfl (lv_at hl 0 rfl) ?_
  refine lv_iconst (v := 1) hx hb dX8_setCapacitor_35 (by decide) ?_
  refine lv_iload_n hx hb dX8_setCapacitor_36 rfl (lv_at hl 1 rfl) ?_
  refine kv_i (As := [.int 1, .int p1]) (rest := []) (wr := []) ⟨hx, hb, hml, hown, hts⟩ (kX8_change l D H.size cI cC cJ cZ cQ m0 m1 m2 m3 m4 m5 m6 sm ln sp tm 0 lf kp z T 1 p1 (by first | assumption | omega) (by first | assumption | omega)) (cwV 2 hts gX8_setCapacitor_X8_change rfl rfl rfl (by decide +kernel) ⟨Nat.le_of_ble_eq_true rfl, Nat.le_of_ble_eq_true rfl⟩) hP hD hK hS hA hN [2, 0, 1] [] rfl rfl (by decide) (by decide) (by decide) 2 8 rfl rfl rfl rfl hl.1 rfl (Nat.le_of_ble_eq_true rfl) dX8_setCapacitor_37 ⟨Nat.zero_le _, Nat.zero_le _⟩ (fun H locs hP hD hS => ?_)
  have hP : va_P D vwCl [(m0, .inr (8, [.ref m1, .ref m2, .int (nI (min (sm + 1) 6)), .ref m3, .int (nI ln), .int 0, .ref m4, .int lf, .int kp, .ref m5, .int (nI sp), .ref m6, .int (nI tm)])), (m1, .inl (cI, 43, .inl (upd (zArr z) 1 p1))), (m2, .inl (cI, 258, .inl (sArr (svS T sm z))))] H := hP
  have hD : va_D A [(m0, .inr (8, [.ref m1, .ref m2, .int (nI (min (sm + 1) 6)), .ref m3, .int (nI ln), .int 0, .ref m4, .int lf, .int kp, .ref m5, .int (nI sp), .ref m6, .int (nI tm)])), (m1, .inl (cI, 43, .inl (upd (zArr z) 1 p1))), (m2, .inl (cI, 258, .inl (sArr (svS T sm z))))] := hD
  refine k_topi (y := z.2.1) rfl ?_
  have hP := k_arr hP 1 rfl (g := zArr (z.1, p1, z.2.2.1, z.2.2.2.1, z.2.2.2.2.1, z.2.2.2.2.2.1, z.2.2.2.2.2.2.1, z.2.2.2.2.2.2.2.1, z.2.2.2.2.2.2.2.2.1, z.2.2.2.2.2.2.2.2.2.1, z.2.2.2.2.2.2.2.2.2.2)) (fun j _ => zArr_s1 z _ j)
  have hD := hD.set (p := 1) (e := .inl (cI, 43, .inl (zArr (z.1, p1, z.2.2.1, z.2.2.2.1, z.2.2.2.2.1, z.2.2.2.2.2.1, z.2.2.2.2.2.2.1, z.2.2.2.2.2.2.2.1, z.2.2.2.2.2.2.2.2.1, z.2.2.2.2.2.2.2.2.2.1, z.2.2.2.2.2.2.2.2.2.2)))) rfl
  have hP : va_P D vwCl [(m0, .inr (8, [.ref m1, .ref m2, .int (nI (min (sm + 1) 6)), .ref m3, .int (nI ln), .int 0, .ref m4, .int lf, .int kp, .ref m5, .int (nI sp), .ref m6, .int (nI tm)])), (m1, .inl (cI, 43, .inl (zArr (z.1, p1, z.2.2.1, z.2.2.2.1, z.2.2.2.2.1, z.2.2.2.2.2.1, z.2.2.2.2.2.2.1, z.2.2.2.2.2.2.2.1, z.2.2.2.2.2.2.2.2.1, z.2.2.2.2.2.2.2.2.2.1, z.2.2.2.2.2.2.2.2.2.2)))), (m2, .inl (cI, 258, .inl (sArr (svS T sm z))))] H := hP
  have hD : va_D A [(m0, .inr (8, [.ref m1, .ref m2, .int (nI (min (sm + 1) 6)), .ref m3, .int (nI ln), .int 0, .ref m4, .int lf, .int kp, .ref m5, .int (nI sp), .ref m6, .int (nI tm)])), (m1, .inl (cI, 43, .inl (zArr (z.1, p1, z.2.2.1, z.2.2.2.1, z.2.2.2.2.1, z.2.2.2.2.2.1, z.2.2.2.2.2.2.1, z.2.2.2.2.2.2.2.1, z.2.2.2.2.2.2.2.2.1, z.2.2.2.2.2.2.2.2.2.1, z.2.2.2.2.2.2.2.2.2.2)))), (m2, .inl (cI, 258, .inl (sArr (svS T sm z))))] := hD
  refine lv_istore_n (lv' := [(3, .int z.2.1), (0, .ref m0), (1, .int p1), (2, .int q1)]) hx hb dX8_setCapacitor_40 rfl hl (by decide) rfl (fun ls hl => ?_)
  refine lv_aload_n hx hb dX8_setCapacitor_41 rfl (lv_at hl 1 rfl) ?_
  refine va_get (D := D) (ci := 8) (v := .ref m1) (C := RX8) (T := TX8) (N := 13) hx hb hts inkX8_setCapacitor_ok_8 hown hK hP 0 rfl rfl 0 (by decide) (hts (.fieldLink RX8 7 "WeighingConverterModel" "z" "[I") (List.mem_of_getElem? (i := 1) rfl)) (fun _ h9 => h9) rfl dX8_setCapacitor_42 ?_
  refine lv_iconst (v := 2) hx hb dX8_setCapacitor_45 (by decide) ?_
  refine lv_iload_n hx hb dX8_setCapacitor_46 rfl (lv_at hl 3 rfl) ?_
  refine k_iast (k := 2) hx hb hK hP hD hS 1 0 rfl rfl (by omega) (by decide) dX8_setCapacitor_47 (fun H locs hP hD hS => ?_)
  have hP : va_P D vwCl [(m0, .inr (8, [.ref m1, .ref m2, .int (nI (min (sm + 1) 6)), .ref m3, .int (nI ln), .int 0, .ref m4, .int lf, .int kp, .ref m5, .int (nI sp), .ref m6, .int (nI tm)])), (m1, .inl (cI, 43, .inl (upd (zArr (z.1, p1, z.2.2.1, z.2.2.2.1, z.2.2.2.2.1, z.2.2.2.2.2.1, z.2.2.2.2.2.2.1, z.2.2.2.2.2.2.2.1, z.2.2.2.2.2.2.2.2.1, z.2.2.2.2.2.2.2.2.2.1, z.2.2.2.2.2.2.2.2.2.2)) 2 q1))), (m2, .inl (cI, 258, .inl (sArr (svS T sm z))))] H := hP
  have hD : va_D A [(m0, .inr (8, [.ref m1, .ref m2, .int (nI (min (sm + 1) 6)), .ref m3, .int (nI ln), .int 0, .ref m4, .int lf, .int kp, .ref m5, .int (nI sp), .ref m6, .int (nI tm)])), (m1, .inl (cI, 43, .inl (upd (zArr (z.1, p1, z.2.2.1, z.2.2.2.1, z.2.2.2.2.1, z.2.2.2.2.2.1, z.2.2.2.2.2.2.1, z.2.2.2.2.2.2.2.1, z.2.2.2.2.2.2.2.2.1, z.2.2.2.2.2.2.2.2.2.1, z.2.2.2.2.2.2.2.2.2.2)) 2 q1))), (m2, .inl (cI, 258, .inl (sArr (svS T sm z))))] := hD
  have hP := k_arr hP 1 rfl (g := zArr (z.1, p1, q1, z.2.2.2.1, z.2.2.2.2.1, z.2.2.2.2.2.1, z.2.2.2.2.2.2.1, z.2.2.2.2.2.2.2.1, z.2.2.2.2.2.2.2.2.1, z.2.2.2.2.2.2.2.2.2.1, z.2.2.2.2.2.2.2.2.2.2)) (fun j _ => zArr_s2 (z.1, p1, z.2.2.1, z.2.2.2.1, z.2.2.2.2.1, z.2.2.2.2.2.1, z.2.2.2.2.2.2.1, z.2.2.2.2.2.2.2.1, z.2.2.2.2.2.2.2.2.1, z.2.2.2.2.2.2.2.2.2.1, z.2.2.2.2.2.2.2.2.2.2) _ j)
  have hD := hD.set (p := 1) (e := .inl (cI, 43, .inl (zArr (z.1, p1, q1, z.2.2.2.1, z.2.2.2.2.1, z.2.2.2.2.2.1, z.2.2.2.2.2.2.1, z.2.2.2.2.2.2.2.1, z.2.2.2.2.2.2.2.2.1, z.2.2.2.2.2.2.2.2.2.1, z.2.2.2.2.2.2.2.2.2.2)))) rfl
  have hP : va_P D vwCl [(m0, .inr (8, [.ref m1, .ref m2, .int (nI (min (sm + 1) 6)), .ref m3, .int (nI ln), .int 0, .ref m4, .int lf, .int kp, .ref m5, .int (nI sp), .ref m6, .int (nI tm)])), (m1, .inl (cI, 43, .inl (zArr (z.1, p1, q1, z.2.2.2.1, z.2.2.2.2.1, z.2.2.2.2.2.1, z.2.2.2.2.2.2.1, z.2.2.2.2.2.2.2.1, z.2.2.2.2.2.2.2.2.1, z.2.2.2.2.2.2.2.2.2.1, z.2.2.2.2.2.2.2.2.2.2)))), (m2, .inl (cI, 258, .inl (sArr (svS T sm z))))] H := hP
  have hD : va_D A [(m0, .inr (8, [.ref m1, .ref m2, .int (nI (min (sm + 1) 6)), .ref m3, .int (nI ln), .int 0, .ref m4, .int lf, .int kp, .ref m5, .int (nI sp), .ref m6, .int (nI tm)])), (m1, .inl (cI, 43, .inl (zArr (z.1, p1, q1, z.2.2.2.1, z.2.2.2.2.1, z.2.2.2.2.2.1, z.2.2.2.2.2.2.1, z.2.2.2.2.2.2.2.1, z.2.2.2.2.2.2.2.2.1, z.2.2.2.2.2.2.2.2.2.1, z.2.2.2.2.2.2.2.2.2.2)))), (m2, .inl (cI, 258, .inl (sArr (svS T sm z))))] := hD
  refine lv_iload_n hx hb dX8_setCapacitor_48 rfl (lv_at hl 0 rfl) ?_
  have hP9 := hP.sub (ws' := [(m0, .inr (8, [.ref m1, .ref m2, .int (nI (min (sm + 1) 6)), .ref m3, .int (nI ln), .int 0, .ref m4, .int lf, .int kp, .ref m5, .int (nI sp), .ref m6, .int (nI tm)])), (m1, .inl (cI, 43, .inl (zArr (z.1, p1, q1, z.2.2.2.1, z.2.2.2.2.1, z.2.2.2.2.2.1, z.2.2.2.2.2.2.1, z.2.2.2.2.2.2.2.1, z.2.2.2.2.2.2.2.2.1, z.2.2.2.2.2.2.2.2.2.1, z.2.2.2.2.2.2.2.2.2.2)))), (m2, .inl (cI, 258, .inl (sArr (svS T sm z))))]) [0, 1, 2] rfl
  have hD9 := hD.sub (ws' := [(m0, .inr (8, [.ref m1, .ref m2, .int (nI (min (sm + 1) 6)), .ref m3, .int (nI ln), .int 0, .ref m4, .int lf, .int kp, .ref m5, .int (nI sp), .ref m6, .int (nI tm)])), (m1, .inl (cI, 43, .inl (zArr (z.1, p1, q1, z.2.2.2.1, z.2.2.2.2.1, z.2.2.2.2.2.1, z.2.2.2.2.2.2.1, z.2.2.2.2.2.2.2.1, z.2.2.2.2.2.2.2.2.1, z.2.2.2.2.2.2.2.2.2.1, z.2.2.2.2.2.2.2.2.2.2)))), (m2, .inl (cI, 258, .inl (sArr (svS T sm z))))]) [0, 1, 2] (by decide) rfl
  exact kr_i (v := z.2.1) hx hb hr hlocks hP9 hD9 hS rfl dX8_setCapacitor_49

abbrev rmkX8_setOffset_ok : Room := { frames := 3, cells := 0, slots := 0, locals := 68 }
set_option maxHeartbeats 4000000 in
set_option maxRecDepth 100000 in
theorem kX8_setOffset_ok (l : Launch) (D : va_G) (sz : Nat) (cI : ClassId) (cC : ClassId) (cJ : ClassId) (cZ : ClassId) (cQ : ClassId) (m0 : Nat) (m1 : Nat) (m2 : Nat) (m3 : Nat) (m4 : Nat) (m5 : Nat) (m6 : Nat) (sm : Nat) (ln : Nat) (sp : Nat) (tm : Nat) (th : Int32) (lf : Int32) (kp : Int32) (z : StV) (T : Nat → StV) (p1 : Int32) (hsm : sm ≤ 6) (h1 : ¬ p1 < (-64)) (h2 : p1 ≤ 64) : Met l yX8_setOffset wsX8_setOffset rmkX8_setOffset_ok (va_Pc [.ref m0, .int p1] (kPre D sz [(m0, .inr (8, [.ref m1, .ref m2, .int (nI sm), .ref m3, .int (nI ln), .int th, .ref m4, .int lf, .int kp, .ref m5, .int (nI sp), .ref m6, .int (nI tm)])), (m1, .inl (cI, 43, .inl (zArr z))), (m2, .inl (cI, 258, .inl (sArr T)))] (kT cI cC cJ cZ cQ))) (kQi D z.2.2.2.1 [(m0, .inr (8, [.ref m1, .ref m2, .int (nI (min (sm + 1) 6)), .ref m3, .int (nI ln), .int 0, .ref m4, .int lf, .int kp, .ref m5, .int (nI sp), .ref m6, .int (nI tm)])), (m1, .inl (cI, 43, .inl (zArr (z.1, z.2.1, z.2.2.1, p1, z.2.2.2.2.1, z.2.2.2.2.2.1, z.2.2.2.2.2.2.1, z.2.2.2.2.2.2.2.1, z.2.2.2.2.2.2.2.2.1, z.2.2.2.2.2.2.2.2.2.1, z.2.2.2.2.2.2.2.2.2.2)))), (m2, .inl (cI, 258, .inl (sArr (svS T sm z))))] (va_A [(m0, .inr (8, [.ref m1, .ref m2, .int (nI sm), .ref m3, .int (nI ln), .int th, .ref m4, .int lf, .int kp, .ref m5, .int (nI sp), .ref m6, .int (nI tm)])), (m1, .inl (cI, 43, .inl (zArr z))), (m2, .inl (cI, 258, .inl (sArr T)))] sz)) 0 0 (va_A [(m0, .inr (8, [.ref m1, .ref m2, .int (nI sm), .ref m3, .int (nI ln), .int th, .ref m4, .int lf, .int kp, .ref m5, .int (nI sp), .ref m6, .int (nI tm)])), (m1, .inl (cI, 43, .inl (zArr z))), (m2, .inl (cI, 258, .inl (sArr T)))] sz) := by
  refine k_met (Qf := kQi D z.2.2.2.1 [(m0, .inr (8, [.ref m1, .ref m2, .int (nI (min (sm + 1) 6)), .ref m3, .int (nI ln), .int 0, .ref m4, .int lf, .int kp, .ref m5, .int (nI sp), .ref m6, .int (nI tm)])), (m1, .inl (cI, 43, .inl (zArr (z.1, z.2.1, z.2.2.1, p1, z.2.2.2.2.1, z.2.2.2.2.2.1, z.2.2.2.2.2.2.1, z.2.2.2.2.2.2.2.1, z.2.2.2.2.2.2.2.2.1, z.2.2.2.2.2.2.2.2.2.1, z.2.2.2.2.2.2.2.2.2.2)))), (m2, .inl (cI, 258, .inl (sArr (svS T sm z))))]) (cc := cX8_setOffset) (maxL := 2) (ret := (some .int)) (own := RX8) (by decide) rfl (Nat.le_of_ble_eq_true rfl) rfl ?_
  intro p e s m args below meth c ls A H locs hx hb hr hts hown hlocks hml hin hsz hP hK hD hA hS hN hl
  have hl : lv_has ls 2 [(0, .ref m0), (1, .int p1)] := hl
  refine lv_aload_n hx hb dX8_setOffset_0 rfl (lv_at hl 0 rfl) ?_
  refine lv_iload_n hx hb dX8_setOffset_1 rfl (lv_at hl 1 rfl) ?_
  refine lv_bipush (v := (-64)) hx hb dX8_setOffset_2 (by decide) ?_
  refine lv_bipush (v := 64) hx hb dX8_setOffset_4 (by decide) ?_
  refine ks_i0 (As := [.int p1, .int (-64), .int 64]) (rest := [.ref m0]) ⟨hx, hb, hml, hown, hts⟩ (kX8_in l p1 (-64) 64) (va_cwS 3 hts gX8_setOffset_X8_in rfl rfl rfl (by decide +kernel) ⟨Nat.le_of_ble_eq_true rfl, Nat.le_of_ble_eq_true rfl⟩) hP hS rfl hl.1 rfl (Nat.le_of_ble_eq_true rfl) dX8_setOffset_6 ⟨Nat.zero_le _, Nat.zero_le _⟩ (fun H locs hP hS => ?_)
  refine k_topi (y := 1) (inM_1 h1 h2) ?_
  refine lv_if_eq (tgt := 16) hx hb dX8_setOffset_9 (by decide) (fun h => absurd h (by decide)) (fun _ => ?_)
  refine lv_iconst (v := 0) hx hb dX8_setOffset_12 (by decide) ?_
  refine lv_goto (tgt := 17) hx hb dX8_setOffset_13 (by decide) ?_
  refine kv_i (As := [.int 0]) (rest := []) (wr := [(m1, .inl (cI, 43, .inl (zArr z))), (m2, .inl (cI, 258, .inl (sArr T)))]) ⟨hx, hb, hml, hown, hts⟩ (kX8_refused l D H.size cI cC cJ cZ cQ m0 m1 m2 m3 m4 m5 m6 sm ln sp tm th lf kp 0) (cwV 1 hts gX8_setOffset_X8_refused rfl rfl rfl (by decide +kernel) ⟨Nat.le_of_ble_eq_true rfl, Nat.le_of_ble_eq_true rfl⟩) hP hD hK hS hA hN [0] [1, 2] rfl rfl (by decide) (by decide) (by decide) 0 8 rfl rfl rfl rfl hl.1 rfl (Nat.le_of_ble_eq_true rfl) dX8_setOffset_17 ⟨Nat.zero_le _, Nat.zero_le _⟩ (fun H locs hP hD hS => ?_)
  have hP : va_P D vwCl [(m1, .inl (cI, 43, .inl (zArr z))), (m2, .inl (cI, 258, .inl (sArr T))), (m0, .inr (8, [.ref m1, .ref m2, .int (nI sm), .ref m3, .int (nI ln), .int 0, .ref m4, .int lf, .int kp, .ref m5, .int (nI sp), .ref m6, .int (nI tm)]))] H := hP
  have hD : va_D A [(m1, .inl (cI, 43, .inl (zArr z))), (m2, .inl (cI, 258, .inl (sArr T))), (m0, .inr (8, [.ref m1, .ref m2, .int (nI sm), .ref m3, .int (nI ln), .int 0, .ref m4, .int lf, .int kp, .ref m5, .int (nI sp), .ref m6, .int (nI tm)]))] := hD
  refine k_topi (y := 0) rfl ?_
  refine lv_if_eq (tgt := 27) hx hb dX8_setOffset_20 (by decide) (fun _ => ?_) (fun h => absurd h (by decide))
  refine lv_aload_n hx hb dX8_setOffset_27 rfl (lv_at hl 0 rfl) ?_
  refine lv_iconst (v := 3) hx hb dX8_setOffset_28 (by decide) ?_
  refine lv_iload_n hx hb dX8_setOffset_29 rfl (lv_at hl 1 rfl) ?_
  refine kv_i (As := [.int 3, .int p1]) (rest := []) (wr := []) ⟨hx, hb, hml, hown, hts⟩ (kX8_change l D H.size cI cC cJ cZ cQ m0 m1 m2 m3 m4 m5 m6 sm ln sp tm 0 lf kp z T 3 p1 (by first | assumption | omega) (by first | assumption | omega)) (cwV 2 hts gX8_setOffset_X8_change rfl rfl rfl (by decide +kernel) ⟨Nat.le_of_ble_eq_true rfl, Nat.le_of_ble_eq_true rfl⟩) hP hD hK hS hA hN [2, 0, 1] [] rfl rfl (by decide) (by decide) (by decide) 2 8 rfl rfl rfl rfl hl.1 rfl (Nat.le_of_ble_eq_true rfl) dX8_setOffset_30 ⟨Nat.zero_le _, Nat.zero_le _⟩ (fun H locs hP hD hS => ?_)
  have hP : va_P D vwCl [(m0, .inr (8, [.ref m1, .ref m2, .int (nI (min (sm + 1) 6)), .ref m3, .int (nI ln), .int 0, .ref m4, .int lf, .int kp, .ref m5, .int (nI sp), .ref m6, .int (nI tm)])), (m1, .inl (cI, 43, .inl (upd (zArr z) 3 p1))), (m2, .inl (cI, 258, .inl (sArr (svS T sm z))))] H := hP
  have hD : va_D A [(m0, .inr (8, [.ref m1, .ref m2, .int (nI (min (sm + 1) 6)), .ref m3, .int (nI ln), .int 0, .ref m4, .int lf, .int kp, .ref m5, .int (nI sp), .ref m6, .int (nI tm)])), (m1, .inl (cI, 43, .inl (upd (zArr z) 3 p1))), (m2, .inl (cI, 258, .inl (sArr (svS T sm z))))] := hD
  refine k_topi (y := z.2.2.2.1) rfl ?_
  have hP := k_arr hP 1 rfl (g := zArr (z.1, z.2.1, z.2.2.1, p1, z.2.2.2.2.1, z.2.2.2.2.2.1, z.2.2.2.2.2.2.1, z.2.2.2.2.2.2.2.1, z.2.2.2.2.2.2.2.2.1, z.2.2.2.2.2.2.2.2.2.1, z.2.2.2.2.2.2.2.2.2.2)) (fun j _ => zArr_s3 z _ j)
  have hD := hD.set (p := 1) (e := .inl (cI, 43, .inl (zArr (z.1, z.2.1, z.2.2.1, p1, z.2.2.2.2.1, z.2.2.2.2.2.1, z.2.2.2.2.2.2.1, z.2.2.2.2.2.2.2.1, z.2.2.2.2.2.2.2.2.1, z.2.2.2.2.2.2.2.2.2.1, z.2.2.2.2.2.2.2.2.2.2)))) rfl
  have hP : va_P D vwCl [(m0, .inr (8, [.ref m1, .ref m2, .int (nI (min (sm + 1) 6)), .ref m3, .int (nI ln), .int 0, .ref m4, .int lf, .int kp, .ref m5, .int (nI sp), .ref m6, .int (nI tm)])), (m1, .inl (cI, 43, .inl (zArr (z.1, z.2.1, z.2.2.1, p1, z.2.2.2.2.1, z.2.2.2.2.2.1, z.2.2.2.2.2.2.1, z.2.2.2.2.2.2.2.1, z.2.2.2.2.2.2.2.2.1, z.2.2.2.2.2.2.2.2.2.1, z.2.2.2.2.2.2.2.2.2.2)))), (m2, .inl (cI, 258, .inl (sArr (svS T sm z))))] H := hP
  have hD : va_D A [(m0, .inr (8, [.ref m1, .ref m2, .int (nI (min (sm + 1) 6)), .ref m3, .int (nI ln), .int 0, .ref m4, .int lf, .int kp, .ref m5, .int (nI sp), .ref m6, .int (nI tm)])), (m1, .inl (cI, 43, .inl (zArr (z.1, z.2.1, z.2.2.1, p1, z.2.2.2.2.1, z.2.2.2.2.2.1, z.2.2.2.2.2.2.1, z.2.2.2.2.2.2.2.1, z.2.2.2.2.2.2.2.2.1, z.2.2.2.2.2.2.2.2.2.1, z.2.2.2.2.2.2.2.2.2.2)))), (m2, .inl (cI, 258, .inl (sArr (svS T sm z))))] := hD
  have hP9 := hP.sub (ws' := [(m0, .inr (8, [.ref m1, .ref m2, .int (nI (min (sm + 1) 6)), .ref m3, .int (nI ln), .int 0, .ref m4, .int lf, .int kp, .ref m5, .int (nI sp), .ref m6, .int (nI tm)])), (m1, .inl (cI, 43, .inl (zArr (z.1, z.2.1, z.2.2.1, p1, z.2.2.2.2.1, z.2.2.2.2.2.1, z.2.2.2.2.2.2.1, z.2.2.2.2.2.2.2.1, z.2.2.2.2.2.2.2.2.1, z.2.2.2.2.2.2.2.2.2.1, z.2.2.2.2.2.2.2.2.2.2)))), (m2, .inl (cI, 258, .inl (sArr (svS T sm z))))]) [0, 1, 2] rfl
  have hD9 := hD.sub (ws' := [(m0, .inr (8, [.ref m1, .ref m2, .int (nI (min (sm + 1) 6)), .ref m3, .int (nI ln), .int 0, .ref m4, .int lf, .int kp, .ref m5, .int (nI sp), .ref m6, .int (nI tm)])), (m1, .inl (cI, 43, .inl (zArr (z.1, z.2.1, z.2.2.1, p1, z.2.2.2.2.1, z.2.2.2.2.2.1, z.2.2.2.2.2.2.1, z.2.2.2.2.2.2.2.1, z.2.2.2.2.2.2.2.2.1, z.2.2.2.2.2.2.2.2.2.1, z.2.2.2.2.2.2.2.2.2.2)))), (m2, .inl (cI, 258, .inl (sArr (svS T sm z))))]) [0, 1, 2] (by decide) rfl
  exact kr_i (v := z.2.2.2.1) hx hb hr hlocks hP9 hD9 hS rfl dX8_setOffset_33

theorem inkX8_setGlitch_ok_8 : ∀ w ∈ wsX80, w ∈ wsX8_setGlitch := fun _ h => List.mem_cons_of_mem _ (List.mem_append_right _ h)
abbrev rmkX8_setGlitch_ok : Room := { frames := 2, cells := 0, slots := 0, locals := 45 }
set_option maxHeartbeats 4000000 in
set_option maxRecDepth 100000 in
theorem kX8_setGlitch_ok (l : Launch) (D : va_G) (sz : Nat) (cI : ClassId) (cC : ClassId) (cJ : ClassId) (cZ : ClassId) (cQ : ClassId) (m0 : Nat) (m1 : Nat) (m2 : Nat) (m3 : Nat) (m4 : Nat) (m5 : Nat) (m6 : Nat) (sm : Nat) (ln : Nat) (sp : Nat) (tm : Nat) (th : Int32) (lf : Int32) (kp : Int32) (z : StV) (T : Nat → StV) (i : Nat) (hsm : sm ≤ 6) (hi : i < 12) : Met l yX8_setGlitch wsX8_setGlitch rmkX8_setGlitch_ok (va_Pc [.ref m0, .int (nI i)] (kPre D sz [(m0, .inr (8, [.ref m1, .ref m2, .int (nI sm), .ref m3, .int (nI ln), .int th, .ref m4, .int lf, .int kp, .ref m5, .int (nI sp), .ref m6, .int (nI tm)])), (m1, .inl (cI, 43, .inl (zArr z))), (m2, .inl (cI, 258, .inl (sArr T)))] (kT cI cC cJ cZ cQ))) (kQi D (hBit z.2.2.2.2.1 (nI i)) [(m0, .inr (8, [.ref m1, .ref m2, .int (nI (min (sm + 1) 6)), .ref m3, .int (nI ln), .int 0, .ref m4, .int lf, .int kp, .ref m5, .int (nI sp), .ref m6, .int (nI tm)])), (m1, .inl (cI, 43, .inl (zArr (z.1, z.2.1, z.2.2.1, z.2.2.2.1, z.2.2.2.2.1 ||| ((1 : Int32) <<< (nI i &&& 31)), z.2.2.2.2.2.1, z.2.2.2.2.2.2.1, z.2.2.2.2.2.2.2.1, z.2.2.2.2.2.2.2.2.1, z.2.2.2.2.2.2.2.2.2.1, z.2.2.2.2.2.2.2.2.2.2)))), (m2, .inl (cI, 258, .inl (sArr (svS T sm z))))] (va_A [(m0, .inr (8, [.ref m1, .ref m2, .int (nI sm), .ref m3, .int (nI ln), .int th, .ref m4, .int lf, .int kp, .ref m5, .int (nI sp), .ref m6, .int (nI tm)])), (m1, .inl (cI, 43, .inl (zArr z))), (m2, .inl (cI, 258, .inl (sArr T)))] sz)) 0 0 (va_A [(m0, .inr (8, [.ref m1, .ref m2, .int (nI sm), .ref m3, .int (nI ln), .int th, .ref m4, .int lf, .int kp, .ref m5, .int (nI sp), .ref m6, .int (nI tm)])), (m1, .inl (cI, 43, .inl (zArr z))), (m2, .inl (cI, 258, .inl (sArr T)))] sz) := by
  refine k_met (Qf := kQi D (hBit z.2.2.2.2.1 (nI i)) [(m0, .inr (8, [.ref m1, .ref m2, .int (nI (min (sm + 1) 6)), .ref m3, .int (nI ln), .int 0, .ref m4, .int lf, .int kp, .ref m5, .int (nI sp), .ref m6, .int (nI tm)])), (m1, .inl (cI, 43, .inl (zArr (z.1, z.2.1, z.2.2.1, z.2.2.2.1, z.2.2.2.2.1 ||| ((1 : Int32) <<< (nI i &&& 31)), z.2.2.2.2.2.1, z.2.2.2.2.2.2.1, z.2.2.2.2.2.2.2.1, z.2.2.2.2.2.2.2.2.1, z.2.2.2.2.2.2.2.2.2.1, z.2.2.2.2.2.2.2.2.2.2)))), (m2, .inl (cI, 258, .inl (sArr (svS T sm z))))]) (cc := cX8_setGlitch) (maxL := 3) (ret := (some .boolean)) (own := RX8) (by decide) rfl (Nat.le_of_ble_eq_true rfl) rfl ?_
  intro p e s m args below meth c ls A H locs hx hb hr hts hown hlocks hml hin hsz hP hK hD hA hS hN hl
  have hl : lv_has ls 3 [(0, .ref m0), (1, .int (nI i))] := hl
  refine lv_aload_n hx hb dX8_setGlitch_0 rfl (lv_at hl 0 rfl) ?_
  refine lv_iload_n hx hb dX8_setGlitch_1 rfl (lv_at hl 1 rfl) ?_
  refine lv_iconst (v := 0) hx hb dX8_setGlitch_2 (by decide) ?_
  refine lv_bipush (v := 11) hx hb dX8_setGlitch_3 (by decide) ?_
  refine ks_i0 (As := [.int (nI i), .int 0, .int 11]) (rest := [.ref m0]) ⟨hx, hb, hml, hown, hts⟩ (kX8_in l (nI i) 0 11) (va_cwS 3 hts gX8_setGlitch_X8_in rfl rfl rfl (by decide +kernel) ⟨Nat.le_of_ble_eq_true rfl, Nat.le_of_ble_eq_true rfl⟩) hP hS rfl hl.1 rfl (Nat.le_of_ble_eq_true rfl) dX8_setGlitch_5 ⟨Nat.zero_le _, Nat.zero_le _⟩ (fun H locs hP hS => ?_)
  refine k_topi (y := 1) (inM_n (a := 0) (b := 11) (by omega) (by omega) (by omega)) ?_
  refine lv_if_eq (tgt := 15) hx hb dX8_setGlitch_8 (by decide) (fun h => absurd h (by decide)) (fun _ => ?_)
  refine lv_iconst (v := 0) hx hb dX8_setGlitch_11 (by decide) ?_
  refine lv_goto (tgt := 16) hx hb dX8_setGlitch_12 (by decide) ?_
  refine kv_i (As := [.int 0]) (rest := []) (wr := [(m1, .inl (cI, 43, .inl (zArr z))), (m2, .inl (cI, 258, .inl (sArr T)))]) ⟨hx, hb, hml, hown, hts⟩ (kX8_refused l D H.size cI cC cJ cZ cQ m0 m1 m2 m3 m4 m5 m6 sm ln sp tm th lf kp 0) (cwV 1 hts gX8_setGlitch_X8_refused rfl rfl rfl (by decide +kernel) ⟨Nat.le_of_ble_eq_true rfl, Nat.le_of_ble_eq_true rfl⟩) hP hD hK hS hA hN [0] [1, 2] rfl rfl (by decide) (by decide) (by decide) 0 8 rfl rfl rfl rfl hl.1 rfl (Nat.le_of_ble_eq_true rfl) dX8_setGlitch_16 ⟨Nat.zero_le _, Nat.zero_le _⟩ (fun H locs hP hD hS => ?_)
  have hP : va_P D vwCl [(m1, .inl (cI, 43, .inl (zArr z))), (m2, .inl (cI, 258, .inl (sArr T))), (m0, .inr (8, [.ref m1, .ref m2, .int (nI sm), .ref m3, .int (nI ln), .int 0, .ref m4, .int lf, .int kp, .ref m5, .int (nI sp), .ref m6, .int (nI tm)]))] H := hP
  have hD : va_D A [(m1, .inl (cI, 43, .inl (zArr z))), (m2, .inl (cI, 258, .inl (sArr T))), (m0, .inr (8, [.ref m1, .ref m2, .int (nI sm), .ref m3, .int (nI ln), .int 0, .ref m4, .int lf, .int kp, .ref m5, .int (nI sp), .ref m6, .int (nI tm)]))] := hD
  refine k_topi (y := 0) rfl ?_
  refine lv_if_eq (tgt := 24) hx hb dX8_setGlitch_19 (by decide) (fun _ => ?_) (fun h => absurd h (by decide))
  refine lv_aload_n hx hb dX8_setGlitch_24 rfl (lv_at hl 0 rfl) ?_
  refine kv_v (As := []) (rest := []) (wr := []) ⟨hx, hb, hml, hown, hts⟩ (kX8_saveState l D H.size cI cC cJ cZ cQ m0 m1 m2 m3 m4 m5 m6 sm ln sp tm 0 lf kp z T (by first | assumption | omega)) (cwV 0 hts gX8_setGlitch_X8_saveState rfl rfl rfl (by decide +kernel) ⟨Nat.le_of_ble_eq_true rfl, Nat.le_of_ble_eq_true rfl⟩) hP hD hK hS hA hN [2, 0, 1] [] rfl rfl (by decide) (by decide) (by decide) 2 8 rfl rfl rfl rfl hl.1 rfl (Nat.le_of_ble_eq_true rfl) dX8_setGlitch_25 ⟨Nat.zero_le _, Nat.zero_le _⟩ (fun H locs hP hD hS => ?_)
  have hP : va_P D vwCl [(m0, .inr (8, [.ref m1, .ref m2, .int (nI (min (sm + 1) 6)), .ref m3, .int (nI ln), .int 0, .ref m4, .int lf, .int kp, .ref m5, .int (nI sp), .ref m6, .int (nI tm)])), (m1, .inl (cI, 43, .inl (zArr z))), (m2, .inl (cI, 258, .inl (sArr (svS T sm z))))] H := hP
  have hD : va_D A [(m0, .inr (8, [.ref m1, .ref m2, .int (nI (min (sm + 1) 6)), .ref m3, .int (nI ln), .int 0, .ref m4, .int lf, .int kp, .ref m5, .int (nI sp), .ref m6, .int (nI tm)])), (m1, .inl (cI, 43, .inl (zArr z))), (m2, .inl (cI, 258, .inl (sArr (svS T sm z))))] := hD
  refine lv_aload_n hx hb dX8_setGlitch_28 rfl (lv_at hl 0 rfl) ?_
  refine va_get (D := D) (ci := 8) (v := .ref m1) (C := RX8) (T := TX8) (N := 13) hx hb hts inkX8_setGlitch_ok_8 hown hK hP 0 rfl rfl 0 (by decide) (hts (.fieldLink RX8 7 "WeighingConverterModel" "z" "[I") (List.mem_of_getElem? (i := 1) rfl)) (fun _ h9 => h9) rfl dX8_setGlitch_29 ?_
  refine lv_iconst (v := 4) hx hb dX8_setGlitch_32 (by decide) ?_
  refine k_iald (k := 4) hx hb hK hP 1 0 rfl rfl (by omega) (by decide) dX8_setGlitch_33 ?_
  refine k_topi (y := z.2.2.2.2.1) rfl ?_
  refine lv_iload_n hx hb dX8_setGlitch_34 rfl (lv_at hl 1 rfl) ?_
  refine lv_ishr hx hb dX8_setGlitch_35 ?_
  refine lv_iconst (v := 1) hx hb dX8_setGlitch_36 (by decide) ?_
  refine lv_iand hx hb dX8_setGlitch_37 ?_
  refine lv_iconst (v := 1) hx hb dX8_setGlitch_38 (by decide) ?_
  refine lv_icmp_ne (tgt := 46) hx hb dX8_setGlitch_39 (by decide) (fun c_39 => ?_) (fun c_39 => ?_)
  · refine lv_iconst (v := 0) hx hb dX8_setGlitch_46 (by decide) ?_
    refine lv_istore_n (lv' := [(2, .int 0), (0, .ref m0), (1, .int (nI i))]) hx hb dX8_setGlitch_47 rfl hl (by decide) rfl (fun ls hl => ?_)
    refine lv_aload_n hx hb dX8_setGlitch_48 rfl (lv_at hl 1 rfl) ?_
    refine va_get (D := D) (ci := 8) (v := .ref m1) (C := RX8) (T := TX8) (N := 13) hx hb hts inkX8_setGlitch_ok_8 hown hK hP 0 rfl rfl 0 (by decide) (hts (.fieldLink RX8 7 "WeighingConverterModel" "z" "[I") (List.mem_of_getElem? (i := 1) rfl)) (fun _ h9 => h9) rfl dX8_setGlitch_49 ?_
    refine lv_iconst (v := 4) hx hb dX8_setGlitch_52 (by decide) ?_
    refine lv_dup2_11 hx hb dX8_setGlitch_53 rfl rfl ?_
    refine k_iald (k := 4) hx hb hK hP 1 0 rfl rfl (by omega) (by decide) dX8_setGlitch_54 ?_
    refine k_topi (y := z.2.2.2.2.1) rfl ?_
    refine lv_iconst (v := 1) hx hb dX8_setGlitch_55 (by decide) ?_
    refine lv_iload_n hx hb dX8_setGlitch_56 rfl (lv_at hl 2 rfl) ?_
    refine lv_ishl hx hb dX8_setGlitch_57 ?_
    refine lv_ior hx hb dX8_setGlitch_58 ?_
    refine k_iast (k := 4) hx hb hK hP hD hS 1 0 rfl rfl (by omega) (by decide) dX8_setGlitch_59 (fun H locs hP hD hS => ?_)
    have hP : va_P D vwCl [(m0, .inr (8, [.ref m1, .ref m2, .int (nI (min (sm + 1) 6)), .ref m3, .int (nI ln), .int 0, .ref m4, .int lf, .int kp, .ref m5, .int (nI sp), .ref m6, .int (nI tm)])), (m1, .inl (cI, 43, .inl (upd (zArr z) 4 (z.2.2.2.2.1 ||| ((1 : Int32) <<< ((nI i) &&& 31)))))), (m2, .inl (cI, 258, .inl (sArr (svS T sm z))))] H := hP
    have hD : va_D A [(m0, .inr (8, [.ref m1, .ref m2, .int (nI (min (sm + 1) 6)), .ref m3, .int (nI ln), .int 0, .ref m4, .int lf, .int kp, .ref m5, .int (nI sp), .ref m6, .int (nI tm)])), (m1, .inl (cI, 43, .inl (upd (zArr z) 4 (z.2.2.2.2.1 ||| ((1 : Int32) <<< ((nI i) &&& 31)))))), (m2, .inl (cI, 258, .inl (sArr (svS T sm z))))] := hD
    have hP := k_arr hP 1 rfl (g := zArr (z.1, z.2.1, z.2.2.1, z.2.2.2.1, z.2.2.2.2.1 ||| ((1 : Int32) <<< ((nI i) &&& 31)), z.2.2.2.2.2.1, z.2.2.2.2.2.2.1, z.2.2.2.2.2.2.2.1, z.2.2.2.2.2.2.2.2.1, z.2.2.2.2.2.2.2.2.2.1, z.2.2.2.2.2.2.2.2.2.2)) (fun j _ => zArr_s4 z _ j)
    have hD := hD.set (p := 1) (e := .inl (cI, 43, .inl (zArr (z.1, z.2.1, z.2.2.1, z.2.2.2.1, z.2.2.2.2.1 ||| ((1 : Int32) <<< ((nI i) &&& 31)), z.2.2.2.2.2.1, z.2.2.2.2.2.2.1, z.2.2.2.2.2.2.2.1, z.2.2.2.2.2.2.2.2.1, z.2.2.2.2.2.2.2.2.2.1, z.2.2.2.2.2.2.2.2.2.2)))) rfl
    have hP : va_P D vwCl [(m0, .inr (8, [.ref m1, .ref m2, .int (nI (min (sm + 1) 6)), .ref m3, .int (nI ln), .int 0, .ref m4, .int lf, .int kp, .ref m5, .int (nI sp), .ref m6, .int (nI tm)])), (m1, .inl (cI, 43, .inl (zArr (z.1, z.2.1, z.2.2.1, z.2.2.2.1, z.2.2.2.2.1 ||| ((1 : Int32) <<< ((nI i) &&& 31)), z.2.2.2.2.2.1, z.2.2.2.2.2.2.1, z.2.2.2.2.2.2.2.1, z.2.2.2.2.2.2.2.2.1, z.2.2.2.2.2.2.2.2.2.1, z.2.2.2.2.2.2.2.2.2.2)))), (m2, .inl (cI, 258, .inl (sArr (svS T sm z))))] H := hP
    have hD : va_D A [(m0, .inr (8, [.ref m1, .ref m2, .int (nI (min (sm + 1) 6)), .ref m3, .int (nI ln), .int 0, .ref m4, .int lf, .int kp, .ref m5, .int (nI sp), .ref m6, .int (nI tm)])), (m1, .inl (cI, 43, .inl (zArr (z.1, z.2.1, z.2.2.1, z.2.2.2.1, z.2.2.2.2.1 ||| ((1 : Int32) <<< ((nI i) &&& 31)), z.2.2.2.2.2.1, z.2.2.2.2.2.2.1, z.2.2.2.2.2.2.2.1, z.2.2.2.2.2.2.2.2.1, z.2.2.2.2.2.2.2.2.2.1, z.2.2.2.2.2.2.2.2.2.2)))), (m2, .inl (cI, 258, .inl (sArr (svS T sm z))))] := hD
    refine lv_iload_n hx hb dX8_setGlitch_60 rfl (lv_at hl 0 rfl) ?_
    have hP9 := hP.sub (ws' := [(m0, .inr (8, [.ref m1, .ref m2, .int (nI (min (sm + 1) 6)), .ref m3, .int (nI ln), .int 0, .ref m4, .int lf, .int kp, .ref m5, .int (nI sp), .ref m6, .int (nI tm)])), (m1, .inl (cI, 43, .inl (zArr (z.1, z.2.1, z.2.2.1, z.2.2.2.1, z.2.2.2.2.1 ||| ((1 : Int32) <<< (nI i &&& 31)), z.2.2.2.2.2.1, z.2.2.2.2.2.2.1, z.2.2.2.2.2.2.2.1, z.2.2.2.2.2.2.2.2.1, z.2.2.2.2.2.2.2.2.2.1, z.2.2.2.2.2.2.2.2.2.2)))), (m2, .inl (cI, 258, .inl (sArr (svS T sm z))))]) [0, 1, 2] rfl
    have hD9 := hD.sub (ws' := [(m0, .inr (8, [.ref m1, .ref m2, .int (nI (min (sm + 1) 6)), .ref m3, .int (nI ln), .int 0, .ref m4, .int lf, .int kp, .ref m5, .int (nI sp), .ref m6, .int (nI tm)])), (m1, .inl (cI, 43, .inl (zArr (z.1, z.2.1, z.2.2.1, z.2.2.2.1, z.2.2.2.2.1 ||| ((1 : Int32) <<< (nI i &&& 31)), z.2.2.2.2.2.1, z.2.2.2.2.2.2.1, z.2.2.2.2.2.2.2.1, z.2.2.2.2.2.2.2.2.1, z.2.2.2.2.2.2.2.2.2.1, z.2.2.2.2.2.2.2.2.2.2)))), (m2, .inl (cI, 258, .inl (sArr (svS T sm z))))]) [0, 1, 2] (by decide) rfl
    exact kr_z (v := 0) hx hb hr hlocks rfl hP9 hD9 hS (by first | exact (hBit_1 c_39 : _) | exact (hBit_0 c_39 : _)) dX8_setGlitch_61
  · refine lv_iconst (v := 1) hx hb dX8_setGlitch_42 (by decide) ?_
    refine lv_goto (tgt := 47) hx hb dX8_setGlitch_43 (by decide) ?_
    refine lv_istore_n (lv' := [(2, .int 1), (0, .ref m0), (1, .int (nI i))]) hx hb dX8_setGlitch_47 rfl hl (by decide) rfl (fun ls hl => ?_)
    refine lv_aload_n hx hb dX8_setGlitch_48 rfl (lv_at hl 1 rfl) ?_
    refine va_get (D := D) (ci := 8) (v := .ref m1) (C := RX8) (T := TX8) (N := 13) hx hb hts inkX8_setGlitch_ok_8 hown hK hP 0 rfl rfl 0 (by decide) (hts (.fieldLink RX8 7 "WeighingConverterModel" "z" "[I") (List.mem_of_getElem? (i := 1) rfl)) (fun _ h9 => h9) rfl dX8_setGlitch_49 ?_
    refine lv_iconst (v := 4) hx hb dX8_setGlitch_52 (by decide) ?_
    refine lv_dup2_11 hx hb dX8_setGlitch_53 rfl rfl ?_
    refine k_iald (k := 4) hx hb hK hP 1 0 rfl rfl (by omega) (by decide) dX8_setGlitch_54 ?_
    refine k_topi (y := z.2.2.2.2.1) rfl ?_
    refine lv_iconst (v := 1) hx hb dX8_setGlitch_55 (by decide) ?_
    refine lv_iload_n hx hb dX8_setGlitch_56 rfl (lv_at hl 2 rfl) ?_
    refine lv_ishl hx hb dX8_setGlitch_57 ?_
    refine lv_ior hx hb dX8_setGlitch_58 ?_
    refine k_iast (k := 4) hx hb hK hP hD hS 1 0 rfl rfl (by omega) (by decide) dX8_setGlitch_59 (fun H locs hP hD hS => ?_)
    have hP : va_P D vwCl [(m0, .inr (8, [.ref m1, .ref m2, .int (nI (min (sm + 1) 6)), .ref m3, .int (nI ln), .int 0, .ref m4, .int lf, .int kp, .ref m5, .int (nI sp), .ref m6, .int (nI tm)])), (m1, .inl (cI, 43, .inl (upd (zArr z) 4 (z.2.2.2.2.1 ||| ((1 : Int32) <<< ((nI i) &&& 31)))))), (m2, .inl (cI, 258, .inl (sArr (svS T sm z))))] H := hP
    have hD : va_D A [(m0, .inr (8, [.ref m1, .ref m2, .int (nI (min (sm + 1) 6)), .ref m3, .int (nI ln), .int 0, .ref m4, .int lf, .int kp, .ref m5, .int (nI sp), .ref m6, .int (nI tm)])), (m1, .inl (cI, 43, .inl (upd (zArr z) 4 (z.2.2.2.2.1 ||| ((1 : Int32) <<< ((nI i) &&& 31)))))), (m2, .inl (cI, 258, .inl (sArr (svS T sm z))))] := hD
    have hP := k_arr hP 1 rfl (g := zArr (z.1, z.2.1, z.2.2.1, z.2.2.2.1, z.2.2.2.2.1 ||| ((1 : Int32) <<< ((nI i) &&& 31)), z.2.2.2.2.2.1, z.2.2.2.2.2.2.1, z.2.2.2.2.2.2.2.1, z.2.2.2.2.2.2.2.2.1, z.2.2.2.2.2.2.2.2.2.1, z.2.2.2.2.2.2.2.2.2.2)) (fun j _ => zArr_s4 z _ j)
    have hD := hD.set (p := 1) (e := .inl (cI, 43, .inl (zArr (z.1, z.2.1, z.2.2.1, z.2.2.2.1, z.2.2.2.2.1 ||| ((1 : Int32) <<< ((nI i) &&& 31)), z.2.2.2.2.2.1, z.2.2.2.2.2.2.1, z.2.2.2.2.2.2.2.1, z.2.2.2.2.2.2.2.2.1, z.2.2.2.2.2.2.2.2.2.1, z.2.2.2.2.2.2.2.2.2.2)))) rfl
    have hP : va_P D vwCl [(m0, .inr (8, [.ref m1, .ref m2, .int (nI (min (sm + 1) 6)), .ref m3, .int (nI ln), .int 0, .ref m4, .int lf, .int kp, .ref m5, .int (nI sp), .ref m6, .int (nI tm)])), (m1, .inl (cI, 43, .inl (zArr (z.1, z.2.1, z.2.2.1, z.2.2.2.1, z.2.2.2.2.1 ||| ((1 : Int32) <<< ((nI i) &&& 31)), z.2.2.2.2.2.1, z.2.2.2.2.2.2.1, z.2.2.2.2.2.2.2.1, z.2.2.2.2.2.2.2.2.1, z.2.2.2.2.2.2.2.2.2.1, z.2.2.2.2.2.2.2.2.2.2)))), (m2, .inl (cI, 258, .inl (sArr (svS T sm z))))] H := hP
    have hD : va_D A [(m0, .inr (8, [.ref m1, .ref m2, .int (nI (min (sm + 1) 6)), .ref m3, .int (nI ln), .int 0, .ref m4, .int lf, .int kp, .ref m5, .int (nI sp), .ref m6, .int (nI tm)])), (m1, .inl (cI, 43, .inl (zArr (z.1, z.2.1, z.2.2.1, z.2.2.2.1, z.2.2.2.2.1 ||| ((1 : Int32) <<< ((nI i) &&& 31)), z.2.2.2.2.2.1, z.2.2.2.2.2.2.1, z.2.2.2.2.2.2.2.1, z.2.2.2.2.2.2.2.2.1, z.2.2.2.2.2.2.2.2.2.1, z.2.2.2.2.2.2.2.2.2.2)))), (m2, .inl (cI, 258, .inl (sArr (svS T sm z))))] := hD
    refine lv_iload_n hx hb dX8_setGlitch_60 rfl (lv_at hl 0 rfl) ?_
    have hP9 := hP.sub (ws' := [(m0, .inr (8, [.ref m1, .ref m2, .int (nI (min (sm + 1) 6)), .ref m3, .int (nI ln), .int 0, .ref m4, .int lf, .int kp, .ref m5, .int (nI sp), .ref m6, .int (nI tm)])), (m1, .inl (cI, 43, .inl (zArr (z.1, z.2.1, z.2.2.1, z.2.2.2.1, z.2.2.2.2.1 ||| ((1 : Int32) <<< (nI i &&& 31)), z.2.2.2.2.2.1, z.2.2.2.2.2.2.1, z.2.2.2.2.2.2.2.1, z.2.2.2.2.2.2.2.2.1, z.2.2.2.2.2.2.2.2.2.1, z.2.2.2.2.2.2.2.2.2.2)))), (m2, .inl (cI, 258, .inl (sArr (svS T sm z))))]) [0, 1, 2] rfl
    have hD9 := hD.sub (ws' := [(m0, .inr (8, [.ref m1, .ref m2, .int (nI (min (sm + 1) 6)), .ref m3, .int (nI ln), .int 0, .ref m4, .int lf, .int kp, .ref m5, .int (nI sp), .ref m6, .int (nI tm)])), (m1, .inl (cI, 43, .inl (zArr (z.1, z.2.1, z.2.2.1, z.2.2.2.1, z.2.2.2.2.1 ||| ((1 : Int32) <<< (nI i &&& 31)), z.2.2.2.2.2.1, z.2.2.2.2.2.2.1, z.2.2.2.2.2.2.2.1, z.2.2.2.2.2.2.2.2.1, z.2.2.2.2.2.2.2.2.2.1, z.2.2.2.2.2.2.2.2.2.2)))), (m2, .inl (cI, 258, .inl (sArr (svS T sm z))))]) [0, 1, 2] (by decide) rfl
    exact kr_z (v := 1) hx hb hr hlocks rfl hP9 hD9 hS (by first | exact (hBit_1 c_39 : _) | exact (hBit_0 c_39 : _)) dX8_setGlitch_61

abbrev rmkX8_setWeight_ok : Room := { frames := 3, cells := 0, slots := 0, locals := 68 }
set_option maxHeartbeats 4000000 in
set_option maxRecDepth 100000 in
theorem kX8_setWeight_ok (l : Launch) (D : va_G) (sz : Nat) (cI : ClassId) (cC : ClassId) (cJ : ClassId) (cZ : ClassId) (cQ : ClassId) (m0 : Nat) (m1 : Nat) (m2 : Nat) (m3 : Nat) (m4 : Nat) (m5 : Nat) (m6 : Nat) (sm : Nat) (ln : Nat) (sp : Nat) (tm : Nat) (th : Int32) (lf : Int32) (kp : Int32) (z : StV) (T : Nat → StV) (i : Nat) (p1 : Int32) (hsm : sm ≤ 6) (hwc : z.2.2.2.2.2.1 ≤ 12) (hi : i < z.2.2.2.2.2.1) (h1 : ¬ p1 < 1) (h2 : p1 ≤ 2048) : Met l yX8_setWeight wsX8_setWeight rmkX8_setWeight_ok (va_Pc [.ref m0, .int (nI i), .int p1] (kPre D sz [(m0, .inr (8, [.ref m1, .ref m2, .int (nI sm), .ref m3, .int (nI ln), .int th, .ref m4, .int lf, .int kp, .ref m5, .int (nI sp), .ref m6, .int (nI tm)])), (m1, .inl (cI, 43, .inl (zArr z))), (m2, .inl (cI, 258, .inl (sArr T)))] (kT cI cC cJ cZ cQ))) (kQi D (z.2.2.2.2.2.2.2.1 i) [(m0, .inr (8, [.ref m1, .ref m2, .int (nI (min (sm + 1) 6)), .ref m3, .int (nI ln), .int 0, .ref m4, .int lf, .int kp, .ref m5, .int (nI sp), .ref m6, .int (nI tm)])), (m1, .inl (cI, 43, .inl (zArr (z.1, z.2.1, z.2.2.1, z.2.2.2.1, z.2.2.2.2.1, z.2.2.2.2.2.1, z.2.2.2.2.2.2.1, upd z.2.2.2.2.2.2.2.1 i p1, z.2.2.2.2.2.2.2.2.1, z.2.2.2.2.2.2.2.2.2.1, z.2.2.2.2.2.2.2.2.2.2)))), (m2, .inl (cI, 258, .inl (sArr (svS T sm z))))] (va_A [(m0, .inr (8, [.ref m1, .ref m2, .int (nI sm), .ref m3, .int (nI ln), .int th, .ref m4, .int lf, .int kp, .ref m5, .int (nI sp), .ref m6, .int (nI tm)])), (m1, .inl (cI, 43, .inl (zArr z))), (m2, .inl (cI, 258, .inl (sArr T)))] sz)) 0 0 (va_A [(m0, .inr (8, [.ref m1, .ref m2, .int (nI sm), .ref m3, .int (nI ln), .int th, .ref m4, .int lf, .int kp, .ref m5, .int (nI sp), .ref m6, .int (nI tm)])), (m1, .inl (cI, 43, .inl (zArr z))), (m2, .inl (cI, 258, .inl (sArr T)))] sz) := by
  refine k_met (Qf := kQi D (z.2.2.2.2.2.2.2.1 i) [(m0, .inr (8, [.ref m1, .ref m2, .int (nI (min (sm + 1) 6)), .ref m3, .int (nI ln), .int 0, .ref m4, .int lf, .int kp, .ref m5, .int (nI sp), .ref m6, .int (nI tm)])), (m1, .inl (cI, 43, .inl (zArr (z.1, z.2.1, z.2.2.1, z.2.2.2.1, z.2.2.2.2.1, z.2.2.2.2.2.1, z.2.2.2.2.2.2.1, upd z.2.2.2.2.2.2.2.1 i p1, z.2.2.2.2.2.2.2.2.1, z.2.2.2.2.2.2.2.2.2.1, z.2.2.2.2.2.2.2.2.2.2)))), (m2, .inl (cI, 258, .inl (sArr (svS T sm z))))]) (cc := cX8_setWeight) (maxL := 3) (ret := (some .int)) (own := RX8) (by decide) rfl (Nat.le_of_ble_eq_true rfl) rfl ?_
  intro p e s m args below meth c ls A H locs hx hb hr hts hown hlocks hml hin hsz hP hK hD hA hS hN hl
  have hl : lv_has ls 3 [(0, .ref m0), (1, .int (nI i)), (2, .int p1)] := hl
  refine lv_aload_n hx hb dX8_setWeight_0 rfl (lv_at hl 0 rfl) ?_
  refine lv_aload_n hx hb dX8_setWeight_1 rfl (lv_at hl 0 rfl) ?_
  refine lv_iload_n hx hb dX8_setWeight_2 rfl (lv_at hl 1 rfl) ?_
  refine kv_i (As := [.int (nI i)]) (rest := [.ref m0]) (wr := [(m2, .inl (cI, 258, .inl (sArr T)))]) ⟨hx, hb, hml, hown, hts⟩ (kX8_isWeight l D H.size cI cC cJ cZ cQ m0 m1 m2 m3 m4 m5 m6 sm ln sp tm th lf kp z (nI i)) (cwV 1 hts gX8_setWeight_X8_isWeight rfl rfl rfl (by decide +kernel) ⟨Nat.le_of_ble_eq_true rfl, Nat.le_of_ble_eq_true rfl⟩) hP hD hK hS hA hN [0, 1] [2] rfl rfl (by decide) (by decide) (by decide) 0 8 rfl rfl rfl rfl hl.1 rfl (Nat.le_of_ble_eq_true rfl) dX8_setWeight_3 ⟨Nat.zero_le _, Nat.zero_le _⟩ (fun H locs hP hD hS => ?_)
  have hP : va_P D vwCl [(m2, .inl (cI, 258, .inl (sArr T))), (m0, .inr (8, [.ref m1, .ref m2, .int (nI sm), .ref m3, .int (nI ln), .int th, .ref m4, .int lf, .int kp, .ref m5, .int (nI sp), .ref m6, .int (nI tm)])), (m1, .inl (cI, 43, .inl (zArr z)))] H := hP
  have hD : va_D A [(m2, .inl (cI, 258, .inl (sArr T))), (m0, .inr (8, [.ref m1, .ref m2, .int (nI sm), .ref m3, .int (nI ln), .int th, .ref m4, .int lf, .int kp, .ref m5, .int (nI sp), .ref m6, .int (nI tm)])), (m1, .inl (cI, 43, .inl (zArr z)))] := hD
  refine k_topi (y := 1) (inM_w (by omega) (by omega)) ?_
  refine lv_if_ne (tgt := 13) hx hb dX8_setWeight_6 (by decide) (fun _ => ?_) (fun h => absurd h (by decide))
  refine lv_iload_n hx hb dX8_setWeight_13 rfl (lv_at hl 2 rfl) ?_
  refine lv_iconst (v := 1) hx hb dX8_setWeight_14 (by decide) ?_
  refine lv_sipush (v := 2048) hx hb dX8_setWeight_15 (by decide) ?_
  refine ks_i0 (As := [.int p1, .int 1, .int 2048]) (rest := [.ref m0]) ⟨hx, hb, hml, hown, hts⟩ (kX8_in l p1 1 2048) (va_cwS 3 hts gX8_setWeight_X8_in rfl rfl rfl (by decide +kernel) ⟨Nat.le_of_ble_eq_true rfl, Nat.le_of_ble_eq_true rfl⟩) hP hS rfl hl.1 rfl (Nat.le_of_ble_eq_true rfl) dX8_setWeight_18 ⟨Nat.zero_le _, Nat.zero_le _⟩ (fun H locs hP hS => ?_)
  refine k_topi (y := 1) (inM_1 h1 h2) ?_
  refine lv_if_eq (tgt := 28) hx hb dX8_setWeight_21 (by decide) (fun h => absurd h (by decide)) (fun _ => ?_)
  refine lv_iconst (v := 0) hx hb dX8_setWeight_24 (by decide) ?_
  refine lv_goto (tgt := 29) hx hb dX8_setWeight_25 (by decide) ?_
  refine kv_i (As := [.int 0]) (rest := []) (wr := [(m2, .inl (cI, 258, .inl (sArr T))), (m1, .inl (cI, 43, .inl (zArr z)))]) ⟨hx, hb, hml, hown, hts⟩ (kX8_refused l D H.size cI cC cJ cZ cQ m0 m1 m2 m3 m4 m5 m6 sm ln sp tm th lf kp 0) (cwV 1 hts gX8_setWeight_X8_refused rfl rfl rfl (by decide +kernel) ⟨Nat.le_of_ble_eq_true rfl, Nat.le_of_ble_eq_true rfl⟩) hP hD hK hS hA hN [1] [0, 2] rfl rfl (by decide) (by decide) (by decide) 1 8 rfl rfl rfl rfl hl.1 rfl (Nat.le_of_ble_eq_true rfl) dX8_setWeight_29 ⟨Nat.zero_le _, Nat.zero_le _⟩ (fun H locs hP hD hS => ?_)
  have hP : va_P D vwCl [(m2, .inl (cI, 258, .inl (sArr T))), (m1, .inl (cI, 43, .inl (zArr z))), (m0, .inr (8, [.ref m1, .ref m2, .int (nI sm), .ref m3, .int (nI ln), .int 0, .ref m4, .int lf, .int kp, .ref m5, .int (nI sp), .ref m6, .int (nI tm)]))] H := hP
  have hD : va_D A [(m2, .inl (cI, 258, .inl (sArr T))), (m1, .inl (cI, 43, .inl (zArr z))), (m0, .inr (8, [.ref m1, .ref m2, .int (nI sm), .ref m3, .int (nI ln), .int 0, .ref m4, .int lf, .int kp, .ref m5, .int (nI sp), .ref m6, .int (nI tm)]))] := hD
  refine k_topi (y := 0) rfl ?_
  refine lv_if_eq (tgt := 39) hx hb dX8_setWeight_32 (by decide) (fun _ => ?_) (fun h => absurd h (by decide))
  refine lv_aload_n hx hb dX8_setWeight_39 rfl (lv_at hl 0 rfl) ?_
  refine lv_bipush (v := 7) hx hb dX8_setWeight_40 (by decide) ?_
  refine lv_iload_n hx hb dX8_setWeight_42 rfl (lv_at hl 1 rfl) ?_
  refine lv_iadd hx hb dX8_setWeight_43 ?_
  refine k_topi (y := nI (7 + i)) (nI_add 7 i) ?_
  refine lv_iload_n hx hb dX8_setWeight_44 rfl (lv_at hl 2 rfl) ?_
  refine kv_i (As := [.int (nI (7 + i)), .int p1]) (rest := []) (wr := []) ⟨hx, hb, hml, hown, hts⟩ (kX8_change l D H.size cI cC cJ cZ cQ m0 m1 m2 m3 m4 m5 m6 sm ln sp tm 0 lf kp z T (7 + i) p1 (by first | assumption | omega) (by first | assumption | omega)) (cwV 2 hts gX8_setWeight_X8_change rfl rfl rfl (by decide +kernel) ⟨Nat.le_of_ble_eq_true rfl, Nat.le_of_ble_eq_true rfl⟩) hP hD hK hS hA hN [2, 1, 0] [] rfl rfl (by decide) (by decide) (by decide) 2 8 rfl rfl rfl rfl hl.1 rfl (Nat.le_of_ble_eq_true rfl) dX8_setWeight_45 ⟨Nat.zero_le _, Nat.zero_le _⟩ (fun H locs hP hD hS => ?_)
  have hP : va_P D vwCl [(m0, .inr (8, [.ref m1, .ref m2, .int (nI (min (sm + 1) 6)), .ref m3, .int (nI ln), .int 0, .ref m4, .int lf, .int kp, .ref m5, .int (nI sp), .ref m6, .int (nI tm)])), (m1, .inl (cI, 43, .inl (upd (zArr z) (7 + i) p1))), (m2, .inl (cI, 258, .inl (sArr (svS T sm z))))] H := hP
  have hD : va_D A [(m0, .inr (8, [.ref m1, .ref m2, .int (nI (min (sm + 1) 6)), .ref m3, .int (nI ln), .int 0, .ref m4, .int lf, .int kp, .ref m5, .int (nI sp), .ref m6, .int (nI tm)])), (m1, .inl (cI, 43, .inl (upd (zArr z) (7 + i) p1))), (m2, .inl (cI, 258, .inl (sArr (svS T sm z))))] := hD
  refine k_topi (y := z.2.2.2.2.2.2.2.1 i) (zArr_w (by omega)) ?_
  have hP := k_arr hP 1 rfl (g := zArr (z.1, z.2.1, z.2.2.1, z.2.2.2.1, z.2.2.2.2.1, z.2.2.2.2.2.1, z.2.2.2.2.2.2.1, upd z.2.2.2.2.2.2.2.1 i p1, z.2.2.2.2.2.2.2.2.1, z.2.2.2.2.2.2.2.2.2.1, z.2.2.2.2.2.2.2.2.2.2)) (fun j _ => zArr_sw z (by omega) _ j)
  have hD := hD.set (p := 1) (e := .inl (cI, 43, .inl (zArr (z.1, z.2.1, z.2.2.1, z.2.2.2.1, z.2.2.2.2.1, z.2.2.2.2.2.1, z.2.2.2.2.2.2.1, upd z.2.2.2.2.2.2.2.1 i p1, z.2.2.2.2.2.2.2.2.1, z.2.2.2.2.2.2.2.2.2.1, z.2.2.2.2.2.2.2.2.2.2)))) rfl
  have hP : va_P D vwCl [(m0, .inr (8, [.ref m1, .ref m2, .int (nI (min (sm + 1) 6)), .ref m3, .int (nI ln), .int 0, .ref m4, .int lf, .int kp, .ref m5, .int (nI sp), .ref m6, .int (nI tm)])), (m1, .inl (cI, 43, .inl (zArr (z.1, z.2.1, z.2.2.1, z.2.2.2.1, z.2.2.2.2.1, z.2.2.2.2.2.1, z.2.2.2.2.2.2.1, upd z.2.2.2.2.2.2.2.1 i p1, z.2.2.2.2.2.2.2.2.1, z.2.2.2.2.2.2.2.2.2.1, z.2.2.2.2.2.2.2.2.2.2)))), (m2, .inl (cI, 258, .inl (sArr (svS T sm z))))] H := hP
  have hD : va_D A [(m0, .inr (8, [.ref m1, .ref m2, .int (nI (min (sm + 1) 6)), .ref m3, .int (nI ln), .int 0, .ref m4, .int lf, .int kp, .ref m5, .int (nI sp), .ref m6, .int (nI tm)])), (m1, .inl (cI, 43, .inl (zArr (z.1, z.2.1, z.2.2.1, z.2.2.2.1, z.2.2.2.2.1, z.2.2.2.2.2.1, z.2.2.2.2.2.2.1, upd z.2.2.2.2.2.2.2.1 i p1, z.2.2.2.2.2.2.2.2.1, z.2.2.2.2.2.2.2.2.2.1, z.2.2.2.2.2.2.2.2.2.2)))), (m2, .inl (cI, 258, .inl (sArr (svS T sm z))))] := hD
  have hP9 := hP.sub (ws' := [(m0, .inr (8, [.ref m1, .ref m2, .int (nI (min (sm + 1) 6)), .ref m3, .int (nI ln), .int 0, .ref m4, .int lf, .int kp, .ref m5, .int (nI sp), .ref m6, .int (nI tm)])), (m1, .inl (cI, 43, .inl (zArr (z.1, z.2.1, z.2.2.1, z.2.2.2.1, z.2.2.2.2.1, z.2.2.2.2.2.1, z.2.2.2.2.2.2.1, upd z.2.2.2.2.2.2.2.1 i p1, z.2.2.2.2.2.2.2.2.1, z.2.2.2.2.2.2.2.2.2.1, z.2.2.2.2.2.2.2.2.2.2)))), (m2, .inl (cI, 258, .inl (sArr (svS T sm z))))]) [0, 1, 2] rfl
  have hD9 := hD.sub (ws' := [(m0, .inr (8, [.ref m1, .ref m2, .int (nI (min (sm + 1) 6)), .ref m3, .int (nI ln), .int 0, .ref m4, .int lf, .int kp, .ref m5, .int (nI sp), .ref m6, .int (nI tm)])), (m1, .inl (cI, 43, .inl (zArr (z.1, z.2.1, z.2.2.1, z.2.2.2.1, z.2.2.2.2.1, z.2.2.2.2.2.1, z.2.2.2.2.2.2.1, upd z.2.2.2.2.2.2.2.1 i p1, z.2.2.2.2.2.2.2.2.1, z.2.2.2.2.2.2.2.2.2.1, z.2.2.2.2.2.2.2.2.2.2)))), (m2, .inl (cI, 258, .inl (sArr (svS T sm z))))]) [0, 1, 2] (by decide) rfl
  exact kr_i (v := z.2.2.2.2.2.2.2.1 i) hx hb hr hlocks hP9 hD9 hS rfl dX8_setWeight_48

theorem inkX8_insertWeight_ok_8 : ∀ w ∈ wsX80, w ∈ wsX8_insertWeight := fun _ h => List.mem_cons_of_mem _ (List.mem_append_right _ h)
abbrev rmkX8_insertWeight_ok : Room := { frames := 2, cells := 0, slots := 0, locals := 45 }
set_option maxHeartbeats 4000000 in
set_option maxRecDepth 100000 in
theorem kX8_insertWeight_ok (l : Launch) (D : va_G) (sz : Nat) (cI : ClassId) (cC : ClassId) (cJ : ClassId) (cZ : ClassId) (cQ : ClassId) (m0 : Nat) (m1 : Nat) (m2 : Nat) (m3 : Nat) (m4 : Nat) (m5 : Nat) (m6 : Nat) (sm : Nat) (ln : Nat) (sp : Nat) (tm : Nat) (th : Int32) (lf : Int32) (kp : Int32) (z : StV) (T : Nat → StV) (i : Nat) (p1 : Int32) (hsm : sm ≤ 6) (hwc : z.2.2.2.2.2.1 < 12) (hi : i ≤ z.2.2.2.2.2.1) (h1 : ¬ p1 < 1) (h2 : p1 ≤ 2048) : Met l yX8_insertWeight wsX8_insertWeight rmkX8_insertWeight_ok (va_Pc [.ref m0, .int (nI i), .int p1] (kPre D sz [(m0, .inr (8, [.ref m1, .ref m2, .int (nI sm), .ref m3, .int (nI ln), .int th, .ref m4, .int lf, .int kp, .ref m5, .int (nI sp), .ref m6, .int (nI tm)])), (m1, .inl (cI, 43, .inl (zArr z))), (m2, .inl (cI, 258, .inl (sArr T)))] (kT cI cC cJ cZ cQ))) (kQi D (nI (z.2.2.2.2.2.1 + 1)) [(m0, .inr (8, [.ref m1, .ref m2, .int (nI (min (sm + 1) 6)), .ref m3, .int (nI ln), .int 0, .ref m4, .int lf, .int kp, .ref m5, .int (nI sp), .ref m6, .int (nI tm)])), (m1, .inl (cI, 43, .inl (zArr (z.1, z.2.1, z.2.2.1, z.2.2.2.1, z.2.2.2.2.1, z.2.2.2.2.2.1 + 1, z.2.2.2.2.2.2.1, insA z.2.2.2.2.2.2.2.1 i z.2.2.2.2.2.1 p1, z.2.2.2.2.2.2.2.2.1, z.2.2.2.2.2.2.2.2.2.1, z.2.2.2.2.2.2.2.2.2.2)))), (m2, .inl (cI, 258, .inl (sArr (svS T sm z))))] (va_A [(m0, .inr (8, [.ref m1, .ref m2, .int (nI sm), .ref m3, .int (nI ln), .int th, .ref m4, .int lf, .int kp, .ref m5, .int (nI sp), .ref m6, .int (nI tm)])), (m1, .inl (cI, 43, .inl (zArr z))), (m2, .inl (cI, 258, .inl (sArr T)))] sz)) 0 0 (va_A [(m0, .inr (8, [.ref m1, .ref m2, .int (nI sm), .ref m3, .int (nI ln), .int th, .ref m4, .int lf, .int kp, .ref m5, .int (nI sp), .ref m6, .int (nI tm)])), (m1, .inl (cI, 43, .inl (zArr z))), (m2, .inl (cI, 258, .inl (sArr T)))] sz) := by
  refine k_met (Qf := kQi D (nI (z.2.2.2.2.2.1 + 1)) [(m0, .inr (8, [.ref m1, .ref m2, .int (nI (min (sm + 1) 6)), .ref m3, .int (nI ln), .int 0, .ref m4, .int lf, .int kp, .ref m5, .int (nI sp), .ref m6, .int (nI tm)])), (m1, .inl (cI, 43, .inl (zArr (z.1, z.2.1, z.2.2.1, z.2.2.2.1, z.2.2.2.2.1, z.2.2.2.2.2.1 + 1, z.2.2.2.2.2.2.1, insA z.2.2.2.2.2.2.2.1 i z.2.2.2.2.2.1 p1, z.2.2.2.2.2.2.2.2.1, z.2.2.2.2.2.2.2.2.2.1, z.2.2.2.2.2.2.2.2.2.2)))), (m2, .inl (cI, 258, .inl (sArr (svS T sm z))))]) (cc := cX8_insertWeight) (maxL := 4) (ret := (some .int)) (own := RX8) (by decide) rfl (Nat.le_of_ble_eq_true rfl) rfl ?_
  intro p e s m args below meth c ls A H locs hx hb hr hts hown hlocks hml hin hsz hP hK hD hA hS hN hl
  have hl : lv_has ls 4 [(0, .ref m0), (1, .int (nI i)), (2, .int p1)] := hl
  refine lv_aload_n hx hb dX8_insertWeight_0 rfl (lv_at hl 0 rfl) ?_
  refine lv_iload_n hx hb dX8_insertWeight_1 rfl (lv_at hl 1 rfl) ?_
  refine lv_iconst (v := 0) hx hb dX8_insertWeight_2 (by decide) ?_
  refine lv_aload_n hx hb dX8_insertWeight_3 rfl (lv_at hl 0 rfl) ?_
  refine va_get (D := D) (ci := 8) (v := .ref m1) (C := RX8) (T := TX8) (N := 13) hx hb hts inkX8_insertWeight_ok_8 hown hK hP 0 rfl rfl 0 (by decide) (hts (.fieldLink RX8 7 "WeighingConverterModel" "z" "[I") (List.mem_of_getElem? (i := 1) rfl)) (fun _ h9 => h9) rfl dX8_insertWeight_4 ?_
  refine lv_iconst (v := 5) hx hb dX8_insertWeight_7 (by decide) ?_
  refine k_iald (k := 5) hx hb hK hP 1 0 rfl rfl (by omega) (by decide) dX8_insertWeight_8 ?_
  refine k_topi (y := nI z.2.2.2.2.2.1) rfl ?_
  refine ks_i0 (As := [.int (nI i), .int 0, .int (nI z.2.2.2.2.2.1)]) (rest := [.ref m0]) ⟨hx, hb, hml, hown, hts⟩ (kX8_in l (nI i) 0 (nI z.2.2.2.2.2.1)) (va_cwS 3 hts gX8_insertWeight_X8_in rfl rfl rfl (by decide +kernel) ⟨Nat.le_of_ble_eq_true rfl, Nat.le_of_ble_eq_true rfl⟩) hP hS rfl hl.1 rfl (Nat.le_of_ble_eq_true rfl) dX8_insertWeight_9 ⟨Nat.zero_le _, Nat.zero_le _⟩ (fun H locs hP hS => ?_)
  refine k_topi (y := 1) (inM_n (a := 0) (b := z.2.2.2.2.2.1) (by omega) (by omega) (by omega)) ?_
  refine lv_if_ne (tgt := 19) hx hb dX8_insertWeight_12 (by decide) (fun _ => ?_) (fun h => absurd h (by decide))
  refine lv_iload_n hx hb dX8_insertWeight_19 rfl (lv_at hl 2 rfl) ?_
  refine lv_iconst (v := 1) hx hb dX8_insertWeight_20 (by decide) ?_
  refine lv_sipush (v := 2048) hx hb dX8_insertWeight_21 (by decide) ?_
  refine ks_i0 (As := [.int p1, .int 1, .int 2048]) (rest := [.ref m0]) ⟨hx, hb, hml, hown, hts⟩ (kX8_in l p1 1 2048) (va_cwS 3 hts gX8_insertWeight_X8_in rfl rfl rfl (by decide +kernel) ⟨Nat.le_of_ble_eq_true rfl, Nat.le_of_ble_eq_true rfl⟩) hP hS rfl hl.1 rfl (Nat.le_of_ble_eq_true rfl) dX8_insertWeight_24 ⟨Nat.zero_le _, Nat.zero_le _⟩ (fun H locs hP hS => ?_)
  refine k_topi (y := 1) (inM_1 h1 h2) ?_
  refine lv_if_ne (tgt := 34) hx hb dX8_insertWeight_27 (by decide) (fun _ => ?_) (fun h => absurd h (by decide))
  refine lv_aload_n hx hb dX8_insertWeight_34 rfl (lv_at hl 0 rfl) ?_
  refine va_get (D := D) (ci := 8) (v := .ref m1) (C := RX8) (T := TX8) (N := 13) hx hb hts inkX8_insertWeight_ok_8 hown hK hP 0 rfl rfl 0 (by decide) (hts (.fieldLink RX8 7 "WeighingConverterModel" "z" "[I") (List.mem_of_getElem? (i := 1) rfl)) (fun _ h9 => h9) rfl dX8_insertWeight_35 ?_
  refine lv_iconst (v := 5) hx hb dX8_insertWeight_38 (by decide) ?_
  refine k_iald (k := 5) hx hb hK hP 1 0 rfl rfl (by omega) (by decide) dX8_insertWeight_39 ?_
  refine k_topi (y := nI z.2.2.2.2.2.1) rfl ?_
  refine lv_bipush (v := 12) hx hb dX8_insertWeight_40 (by decide) ?_
  refine lv_icmp_ne (tgt := 49) hx hb dX8_insertWeight_42 (by decide) (fun c_42 => ?_) (fun c_42 => ?_)
  · have c_42 : ¬ z.2.2.2.2.2.1 = 12 := fun h => c_42 ((nI_eq (a := z.2.2.2.2.2.1) (b := 12) (by omega) (by omega)).mpr h)
    refine lv_iconst (v := 0) hx hb dX8_insertWeight_49 (by decide) ?_
    refine kv_i (As := [.int 0]) (rest := []) (wr := [(m1, .inl (cI, 43, .inl (zArr z))), (m2, .inl (cI, 258, .inl (sArr T)))]) ⟨hx, hb, hml, hown, hts⟩ (kX8_refused l D H.size cI cC cJ cZ cQ m0 m1 m2 m3 m4 m5 m6 sm ln sp tm th lf kp 0) (cwV 1 hts gX8_insertWeight_X8_refused rfl rfl rfl (by decide +kernel) ⟨Nat.le_of_ble_eq_true rfl, Nat.le_of_ble_eq_true rfl⟩) hP hD hK hS hA hN [0] [1, 2] rfl rfl (by decide) (by decide) (by decide) 0 8 rfl rfl rfl rfl hl.1 rfl (Nat.le_of_ble_eq_true rfl) dX8_insertWeight_50 ⟨Nat.zero_le _, Nat.zero_le _⟩ (fun H locs hP hD hS => ?_)
    have hP : va_P D vwCl [(m1, .inl (cI, 43, .inl (zArr z))), (m2, .inl (cI, 258, .inl (sArr T))), (m0, .inr (8, [.ref m1, .ref m2, .int (nI sm), .ref m3, .int (nI ln), .int 0, .ref m4, .int lf, .int kp, .ref m5, .int (nI sp), .ref m6, .int (nI tm)]))] H := hP
    have hD : va_D A [(m1, .inl (cI, 43, .inl (zArr z))), (m2, .inl (cI, 258, .inl (sArr T))), (m0, .inr (8, [.ref m1, .ref m2, .int (nI sm), .ref m3, .int (nI ln), .int 0, .ref m4, .int lf, .int kp, .ref m5, .int (nI sp), .ref m6, .int (nI tm)]))] := hD
    refine k_topi (y := 0) rfl ?_
    refine lv_if_eq (tgt := 58) hx hb dX8_insertWeight_53 (by decide) (fun _ => ?_) (fun h => absurd h (by decide))
    refine lv_aload_n hx hb dX8_insertWeight_58 rfl (lv_at hl 0 rfl) ?_
    refine kv_v (As := []) (rest := []) (wr := []) ⟨hx, hb, hml, hown, hts⟩ (kX8_saveState l D H.size cI cC cJ cZ cQ m0 m1 m2 m3 m4 m5 m6 sm ln sp tm 0 lf kp z T (by first | assumption | omega)) (cwV 0 hts gX8_insertWeight_X8_saveState rfl rfl rfl (by decide +kernel) ⟨Nat.le_of_ble_eq_true rfl, Nat.le_of_ble_eq_true rfl⟩) hP hD hK hS hA hN [2, 0, 1] [] rfl rfl (by decide) (by decide) (by decide) 2 8 rfl rfl rfl rfl hl.1 rfl (Nat.le_of_ble_eq_true rfl) dX8_insertWeight_59 ⟨Nat.zero_le _, Nat.zero_le _⟩ (fun H locs hP hD hS => ?_)
    have hP : va_P D vwCl [(m0, .inr (8, [.ref m1, .ref m2, .int (nI (min (sm + 1) 6)), .ref m3, .int (nI ln), .int 0, .ref m4, .int lf, .int kp, .ref m5, .int (nI sp), .ref m6, .int (nI tm)])), (m1, .inl (cI, 43, .inl (zArr z))), (m2, .inl (cI, 258, .inl (sArr (svS T sm z))))] H := hP
    have hD : va_D A [(m0, .inr (8, [.ref m1, .ref m2, .int (nI (min (sm + 1) 6)), .ref m3, .int (nI ln), .int 0, .ref m4, .int lf, .int kp, .ref m5, .int (nI sp), .ref m6, .int (nI tm)])), (m1, .inl (cI, 43, .inl (zArr z))), (m2, .inl (cI, 258, .inl (sArr (svS T sm z))))] := hD
    refine lv_aload_n hx hb dX8_insertWeight_62 rfl (lv_at hl 0 rfl) ?_
    refine va_get (D := D) (ci := 8) (v := .ref m1) (C := RX8) (T := TX8) (N := 13) hx hb hts inkX8_insertWeight_ok_8 hown hK hP 0 rfl rfl 0 (by decide) (hts (.fieldLink RX8 7 "WeighingConverterModel" "z" "[I") (List.mem_of_getElem? (i := 1) rfl)) (fun _ h9 => h9) rfl dX8_insertWeight_63 ?_
    refine lv_iconst (v := 5) hx hb dX8_insertWeight_66 (by decide) ?_
    refine k_iald (k := 5) hx hb hK hP 1 0 rfl rfl (by omega) (by decide) dX8_insertWeight_67 ?_
    refine k_topi (y := nI z.2.2.2.2.2.1) rfl ?_
    refine lv_istore_n (lv' := [(3, .int (nI z.2.2.2.2.2.1)), (0, .ref m0), (1, .int (nI i)), (2, .int p1)]) hx hb dX8_insertWeight_68 rfl hl (by decide) rfl (fun ls hl => ?_)
    have J69 : ∀ (fuel : Nat) (k : Nat) (g : Nat → Int32) (hk : i ≤ k) (hk2 : k ≤ z.2.2.2.2.2.1) (hg : ∀ j, g j = if k < j ∧ j ≤ z.2.2.2.2.2.1 then z.2.2.2.2.2.2.2.1 (j - 1) else z.2.2.2.2.2.2.2.1 j) (hm : k < fuel) (H : Heap) (locs : List Loc) (hP : va_P D vwCl [(m0, .inr (8, [.ref m1, .ref m2, .int (nI (min (sm + 1) 6)), .ref m3, .int (nI ln), .int 0, .ref m4, .int lf, .int kp, .ref m5, .int (nI sp), .ref m6, .int (nI tm)])), (m1, .inl (cI, 43, .inl (zArr (z.1, z.2.1, z.2.2.1, z.2.2.2.1, z.2.2.2.2.1, z.2.2.2.2.2.1, z.2.2.2.2.2.2.1, g, z.2.2.2.2.2.2.2.2.1, z.2.2.2.2.2.2.2.2.2.1, z.2.2.2.2.2.2.2.2.2.2)))), (m2, .inl (cI, 258, .inl (sArr (svS T sm z))))] H) (hD : va_D A [(m0, .inr (8, [.ref m1, .ref m2, .int (nI (min (sm + 1) 6)), .ref m3, .int (nI ln), .int 0, .ref m4, .int lf, .int kp, .ref m5, .int (nI sp), .ref m6, .int (nI tm)])), (m1, .inl (cI, 43, .inl (zArr (z.1, z.2.1, z.2.2.1, z.2.2.2.1, z.2.2.2.2.1, z.2.2.2.2.2.1, z.2.2.2.2.2.2.1, g, z.2.2.2.2.2.2.2.2.1, z.2.2.2.2.2.2.2.2.2.1, z.2.2.2.2.2.2.2.2.2.2)))), (m2, .inl (cI, 258, .inl (sArr (svS T sm z))))]) (hS : va_S A s.heap H locs) (ls : Array Slot) (hl : lv_has ls 4 [(3, .int (nI k)), (0, .ref m0), (1, .int (nI i)), (2, .int p1)]), W p l e rmkX8_insertWeight_ok s m args below meth c H locs 0 0 (MQ below (kQi D (nI (z.2.2.2.2.2.1 + 1)) [(m0, .inr (8, [.ref m1, .ref m2, .int (nI (min (sm + 1) 6)), .ref m3, .int (nI ln), .int 0, .ref m4, .int lf, .int kp, .ref m5, .int (nI sp), .ref m6, .int (nI tm)])), (m1, .inl (cI, 43, .inl (zArr (z.1, z.2.1, z.2.2.1, z.2.2.2.1, z.2.2.2.2.1, z.2.2.2.2.2.1 + 1, z.2.2.2.2.2.2.1, insA z.2.2.2.2.2.2.2.1 i z.2.2.2.2.2.1 p1, z.2.2.2.2.2.2.2.2.1, z.2.2.2.2.2.2.2.2.2.1, z.2.2.2.2.2.2.2.2.2.2)))), (m2, .inl (cI, 258, .inl (sArr (svS T sm z))))] A) args s 0 0 A) (F0 m 69 ls []) := by
      intro fuel
      induction fuel with
      | zero => intro k g hk hk2 hg hm; exact absurd hm (Nat.not_lt_zero _)
      | succ fuel ih69 =>
        intro k g hk hk2 hg hm H locs hP hD hS ls hl
        refine lv_iload_n hx hb dX8_insertWeight_69 rfl (lv_at hl 0 rfl) ?_
        refine lv_iload_n hx hb dX8_insertWeight_70 rfl (lv_at hl 2 rfl) ?_
        refine lv_icmp_le (tgt := 100) hx hb dX8_insertWeight_71 (by decide) (fun c_71 => ?_) (fun c_71 => ?_)
        · have c_71 : k ≤ i := (nI_leI (a := k) (b := i) (by omega) (by omega)).mp c_71
          refine lv_aload_n hx hb dX8_insertWeight_100 rfl (lv_at hl 1 rfl) ?_
          refine va_get (D := D) (ci := 8) (v := .ref m1) (C := RX8) (T := TX8) (N := 13) hx hb hts inkX8_insertWeight_ok_8 hown hK hP 0 rfl rfl 0 (by decide) (hts (.fieldLink RX8 7 "WeighingConverterModel" "z" "[I") (List.mem_of_getElem? (i := 1) rfl)) (fun _ h9 => h9) rfl dX8_insertWeight_101 ?_
          refine lv_bipush (v := 7) hx hb dX8_insertWeight_104 (by decide) ?_
          refine lv_iload_n hx hb dX8_insertWeight_106 rfl (lv_at hl 2 rfl) ?_
          refine lv_iadd hx hb dX8_insertWeight_107 ?_
          refine k_topi (y := nI (7 + i)) (nI_add 7 i) ?_
          refine lv_iload_n hx hb dX8_insertWeight_108 rfl (lv_at hl 3 rfl) ?_
          refine k_iast (k := 7 + i) hx hb hK hP hD hS 1 0 rfl rfl (by omega) (by decide) dX8_insertWeight_109 (fun H locs hP hD hS => ?_)
          have hP : va_P D vwCl [(m0, .inr (8, [.ref m1, .ref m2, .int (nI (min (sm + 1) 6)), .ref m3, .int (nI ln), .int 0, .ref m4, .int lf, .int kp, .ref m5, .int (nI sp), .ref m6, .int (nI tm)])), (m1, .inl (cI, 43, .inl (upd (zArr (z.1, z.2.1, z.2.2.1, z.2.2.2.1, z.2.2.2.2.1, z.2.2.2.2.2.1, z.2.2.2.2.2.2.1, g, z.2.2.2.2.2.2.2.2.1, z.2.2.2.2.2.2.2.2.2.1, z.2.2.2.2.2.2.2.2.2.2)) (7 + i) p1))), (m2, .inl (cI, 258, .inl (sArr (svS T sm z))))] H := hP
          have hD : va_D A [(m0, .inr (8, [.ref m1, .ref m2, .int (nI (min (sm + 1) 6)), .ref m3, .int (nI ln), .int 0, .ref m4, .int lf, .int kp, .ref m5, .int (nI sp), .ref m6, .int (nI tm)])), (m1, .inl (cI, 43, .inl (upd (zArr (z.1, z.2.1, z.2.2.1, z.2.2.2.1, z.2.2.2.2.1, z.2.2.2.2.2.1, z.2.2.2.2.2.2.1, g, z.2.2.2.2.2.2.2.2.1, z.2.2.2.2.2.2.2.2.2.1, z.2.2.2.2.2.2.2.2.2.2)) (7 + i) p1))), (m2, .inl (cI, 258, .inl (sArr (svS T sm z))))] := hD
          have hP := k_arr hP 1 rfl (g := zArr (z.1, z.2.1, z.2.2.1, z.2.2.2.1, z.2.2.2.2.1, z.2.2.2.2.2.1, z.2.2.2.2.2.2.1, upd g i p1, z.2.2.2.2.2.2.2.2.1, z.2.2.2.2.2.2.2.2.2.1, z.2.2.2.2.2.2.2.2.2.2)) (fun j _ => zArr_sw (z.1, z.2.1, z.2.2.1, z.2.2.2.1, z.2.2.2.2.1, z.2.2.2.2.2.1, z.2.2.2.2.2.2.1, g, z.2.2.2.2.2.2.2.2.1, z.2.2.2.2.2.2.2.2.2.1, z.2.2.2.2.2.2.2.2.2.2) (by omega) _ j)
          have hD := hD.set (p := 1) (e := .inl (cI, 43, .inl (zArr (z.1, z.2.1, z.2.2.1, z.2.2.2.1, z.2.2.2.2.1, z.2.2.2.2.2.1, z.2.2.2.2.2.2.1, upd g i p1, z.2.2.2.2.2.2.2.2.1, z.2.2.2.2.2.2.2.2.2.1, z.2.2.2.2.2.2.2.2.2.2)))) rfl
          have hP : va_P D vwCl [(m0, .inr (8, [.ref m1, .ref m2, .int (nI (min (sm + 1) 6)), .ref m3, .int (nI ln), .int 0, .ref m4, .int lf, .int kp, .ref m5, .int (nI sp), .ref m6, .int (nI tm)])), (m1, .inl (cI, 43, .inl (zArr (z.1, z.2.1, z.2.2.1, z.2.2.2.1, z.2.2.2.2.1, z.2.2.2.2.2.1, z.2.2.2.2.2.2.1, upd g i p1, z.2.2.2.2.2.2.2.2.1, z.2.2.2.2.2.2.2.2.2.1, z.2.2.2.2.2.2.2.2.2.2)))), (m2, .inl (cI, 258, .inl (sArr (svS T sm z))))] H := hP
          have hD : va_D A [(m0, .inr (8, [.ref m1, .ref m2, .int (nI (min (sm + 1) 6)), .ref m3, .int (nI ln), .int 0, .ref m4, .int lf, .int kp, .ref m5, .int (nI sp), .ref m6, .int (nI tm)])), (m1, .inl (cI, 43, .inl (zArr (z.1, z.2.1, z.2.2.1, z.2.2.2.1, z.2.2.2.2.1, z.2.2.2.2.2.1, z.2.2.2.2.2.2.1, upd g i p1, z.2.2.2.2.2.2.2.2.1, z.2.2.2.2.2.2.2.2.2.1, z.2.2.2.2.2.2.2.2.2.2)))), (m2, .inl (cI, 258, .inl (sArr (svS T sm z))))] := hD
          refine lv_aload_n hx hb dX8_insertWeight_110 rfl (lv_at hl 1 rfl) ?_
          refine va_get (D := D) (ci := 8) (v := .ref m1) (C := RX8) (T := TX8) (N := 13) hx hb hts inkX8_insertWeight_ok_8 hown hK hP 0 rfl rfl 0 (by decide) (hts (.fieldLink RX8 7 "WeighingConverterModel" "z" "[I") (List.mem_of_getElem? (i := 1) rfl)) (fun _ h9 => h9) rfl dX8_insertWeight_111 ?_
          refine lv_iconst (v := 5) hx hb dX8_insertWeight_114 (by decide) ?_
          refine lv_dup2_11 hx hb dX8_insertWeight_115 rfl rfl ?_
          refine k_iald (k := 5) hx hb hK hP 1 0 rfl rfl (by omega) (by decide) dX8_insertWeight_116 ?_
          refine k_topi (y := nI z.2.2.2.2.2.1) rfl ?_
          refine lv_iconst (v := 1) hx hb dX8_insertWeight_117 (by decide) ?_
          refine lv_iadd hx hb dX8_insertWeight_118 ?_
          refine k_topi (y := nI (z.2.2.2.2.2.1 + 1)) (nI_add z.2.2.2.2.2.1 1) ?_
          refine k_iast (k := 5) hx hb hK hP hD hS 1 0 rfl rfl (by omega) (by decide) dX8_insertWeight_119 (fun H locs hP hD hS => ?_)
          have hP : va_P D vwCl [(m0, .inr (8, [.ref m1, .ref m2, .int (nI (min (sm + 1) 6)), .ref m3, .int (nI ln), .int 0, .ref m4, .int lf, .int kp, .ref m5, .int (nI sp), .ref m6, .int (nI tm)])), (m1, .inl (cI, 43, .inl (upd (zArr (z.1, z.2.1, z.2.2.1, z.2.2.2.1, z.2.2.2.2.1, z.2.2.2.2.2.1, z.2.2.2.2.2.2.1, upd g i p1, z.2.2.2.2.2.2.2.2.1, z.2.2.2.2.2.2.2.2.2.1, z.2.2.2.2.2.2.2.2.2.2)) 5 (nI (z.2.2.2.2.2.1 + 1))))), (m2, .inl (cI, 258, .inl (sArr (svS T sm z))))] H := hP
          have hD : va_D A [(m0, .inr (8, [.ref m1, .ref m2, .int (nI (min (sm + 1) 6)), .ref m3, .int (nI ln), .int 0, .ref m4, .int lf, .int kp, .ref m5, .int (nI sp), .ref m6, .int (nI tm)])), (m1, .inl (cI, 43, .inl (upd (zArr (z.1, z.2.1, z.2.2.1, z.2.2.2.1, z.2.2.2.2.1, z.2.2.2.2.2.1, z.2.2.2.2.2.2.1, upd g i p1, z.2.2.2.2.2.2.2.2.1, z.2.2.2.2.2.2.2.2.2.1, z.2.2.2.2.2.2.2.2.2.2)) 5 (nI (z.2.2.2.2.2.1 + 1))))), (m2, .inl (cI, 258, .inl (sArr (svS T sm z))))] := hD
          have hP := k_arr hP 1 rfl (g := zArr (z.1, z.2.1, z.2.2.1, z.2.2.2.1, z.2.2.2.2.1, z.2.2.2.2.2.1 + 1, z.2.2.2.2.2.2.1, upd g i p1, z.2.2.2.2.2.2.2.2.1, z.2.2.2.2.2.2.2.2.2.1, z.2.2.2.2.2.2.2.2.2.2)) (fun j _ => zArr_s5 (z.1, z.2.1, z.2.2.1, z.2.2.2.1, z.2.2.2.2.1, z.2.2.2.2.2.1, z.2.2.2.2.2.2.1, upd g i p1, z.2.2.2.2.2.2.2.2.1, z.2.2.2.2.2.2.2.2.2.1, z.2.2.2.2.2.2.2.2.2.2) _ j)
          have hD := hD.set (p := 1) (e := .inl (cI, 43, .inl (zArr (z.1, z.2.1, z.2.2.1, z.2.2.2.1, z.2.2.2.2.1, z.2.2.2.2.2.1 + 1, z.2.2.2.2.2.2.1, upd g i p1, z.2.2.2.2.2.2.2.2.1, z.2.2.2.2.2.2.2.2.2.1, z.2.2.2.2.2.2.2.2.2.2)))) rfl
          have hP : va_P D vwCl [(m0, .inr (8, [.ref m1, .ref m2, .int (nI (min (sm + 1) 6)), .ref m3, .int (nI ln), .int 0, .ref m4, .int lf, .int kp, .ref m5, .int (nI sp), .ref m6, .int (nI tm)])), (m1, .inl (cI, 43, .inl (zArr (z.1, z.2.1, z.2.2.1, z.2.2.2.1, z.2.2.2.2.1, z.2.2.2.2.2.1 + 1, z.2.2.2.2.2.2.1, upd g i p1, z.2.2.2.2.2.2.2.2.1, z.2.2.2.2.2.2.2.2.2.1, z.2.2.2.2.2.2.2.2.2.2)))), (m2, .inl (cI, 258, .inl (sArr (svS T sm z))))] H := hP
          have hD : va_D A [(m0, .inr (8, [.ref m1, .ref m2, .int (nI (min (sm + 1) 6)), .ref m3, .int (nI ln), .int 0, .ref m4, .int lf, .int kp, .ref m5, .int (nI sp), .ref m6, .int (nI tm)])), (m1, .inl (cI, 43, .inl (zArr (z.1, z.2.1, z.2.2.1, z.2.2.2.1, z.2.2.2.2.1, z.2.2.2.2.2.1 + 1, z.2.2.2.2.2.2.1, upd g i p1, z.2.2.2.2.2.2.2.2.1, z.2.2.2.2.2.2.2.2.2.1, z.2.2.2.2.2.2.2.2.2.2)))), (m2, .inl (cI, 258, .inl (sArr (svS T sm z))))] := hD
          refine lv_aload_n hx hb dX8_insertWeight_120 rfl (lv_at hl 1 rfl) ?_
          refine va_get (D := D) (ci := 8) (v := .ref m1) (C := RX8) (T := TX8) (N := 13) hx hb hts inkX8_insertWeight_ok_8 hown hK hP 0 rfl rfl 0 (by decide) (hts (.fieldLink RX8 7 "WeighingConverterModel" "z" "[I") (List.mem_of_getElem? (i := 1) rfl)) (fun _ h9 => h9) rfl dX8_insertWeight_121 ?_
          refine lv_iconst (v := 5) hx hb dX8_insertWeight_124 (by decide) ?_
          refine k_iald (k := 5) hx hb hK hP 1 0 rfl rfl (by omega) (by decide) dX8_insertWeight_125 ?_
          refine k_topi (y := nI (z.2.2.2.2.2.1 + 1)) rfl ?_
          have hP := k_arr hP 1 rfl (g := zArr (z.1, z.2.1, z.2.2.1, z.2.2.2.1, z.2.2.2.2.1, z.2.2.2.2.2.1 + 1, z.2.2.2.2.2.2.1, insA z.2.2.2.2.2.2.2.1 i z.2.2.2.2.2.1 p1, z.2.2.2.2.2.2.2.2.1, z.2.2.2.2.2.2.2.2.2.1, z.2.2.2.2.2.2.2.2.2.2)) (fun j _ => zArr_cf _ _ (fun j9 _ => by simp only [insA, upd, hg]; (repeat' split) <;> first | rfl | omega | exact congrArg _ (by omega) | (congr 1; omega)) j)
          have hD := hD.set (p := 1) (e := .inl (cI, 43, .inl (zArr (z.1, z.2.1, z.2.2.1, z.2.2.2.1, z.2.2.2.2.1, z.2.2.2.2.2.1 + 1, z.2.2.2.2.2.2.1, insA z.2.2.2.2.2.2.2.1 i z.2.2.2.2.2.1 p1, z.2.2.2.2.2.2.2.2.1, z.2.2.2.2.2.2.2.2.2.1, z.2.2.2.2.2.2.2.2.2.2)))) rfl
          have hP : va_P D vwCl [(m0, .inr (8, [.ref m1, .ref m2, .int (nI (min (sm + 1) 6)), .ref m3, .int (nI ln), .int 0, .ref m4, .int lf, .int kp, .ref m5, .int (nI sp), .ref m6, .int (nI tm)])), (m1, .inl (cI, 43, .inl (zArr (z.1, z.2.1, z.2.2.1, z.2.2.2.1, z.2.2.2.2.1, z.2.2.2.2.2.1 + 1, z.2.2.2.2.2.2.1, insA z.2.2.2.2.2.2.2.1 i z.2.2.2.2.2.1 p1, z.2.2.2.2.2.2.2.2.1, z.2.2.2.2.2.2.2.2.2.1, z.2.2.2.2.2.2.2.2.2.2)))), (m2, .inl (cI, 258, .inl (sArr (svS T sm z))))] H := hP
          have hD : va_D A [(m0, .inr (8, [.ref m1, .ref m2, .int (nI (min (sm + 1) 6)), .ref m3, .int (nI ln), .int 0, .ref m4, .int lf, .int kp, .ref m5, .int (nI sp), .ref m6, .int (nI tm)])), (m1, .inl (cI, 43, .inl (zArr (z.1, z.2.1, z.2.2.1, z.2.2.2.1, z.2.2.2.2.1, z.2.2.2.2.2.1 + 1, z.2.2.2.2.2.2.1, insA z.2.2.2.2.2.2.2.1 i z.2.2.2.2.2.1 p1, z.2.2.2.2.2.2.2.2.1, z.2.2.2.2.2.2.2.2.2.1, z.2.2.2.2.2.2.2.2.2.2)))), (m2, .inl (cI, 258, .inl (sArr (svS T sm z))))] := hD
          have hP9 := hP.sub (ws' := [(m0, .inr (8, [.ref m1, .ref m2, .int (nI (min (sm + 1) 6)), .ref m3, .int (nI ln), .int 0, .ref m4, .int lf, .int kp, .ref m5, .int (nI sp), .ref m6, .int (nI tm)])), (m1, .inl (cI, 43, .inl (zArr (z.1, z.2.1, z.2.2.1, z.2.2.2.1, z.2.2.2.2.1, z.2.2.2.2.2.1 + 1, z.2.2.2.2.2.2.1, insA z.2.2.2.2.2.2.2.1 i z.2.2.2.2.2.1 p1, z.2.2.2.2.2.2.2.2.1, z.2.2.2.2.2.2.2.2.2.1, z.2.2.2.2.2.2.2.2.2.2)))), (m2, .inl (cI, 258, .inl (sArr (svS T sm z))))]) [0, 1, 2] rfl
          have hD9 := hD.sub (ws' := [(m0, .inr (8, [.ref m1, .ref m2, .int (nI (min (sm + 1) 6)), .ref m3, .int (nI ln), .int 0, .ref m4, .int lf, .int kp, .ref m5, .int (nI sp), .ref m6, .int (nI tm)])), (m1, .inl (cI, 43, .inl (zArr (z.1, z.2.1, z.2.2.1, z.2.2.2.1, z.2.2.2.2.1, z.2.2.2.2.2.1 + 1, z.2.2.2.2.2.2.1, insA z.2.2.2.2.2.2.2.1 i z.2.2.2.2.2.1 p1, z.2.2.2.2.2.2.2.2.1, z.2.2.2.2.2.2.2.2.2.1, z.2.2.2.2.2.2.2.2.2.2)))), (m2, .inl (cI, 258, .inl (sArr (svS T sm z))))]) [0, 1, 2] (by decide) rfl
          exact kr_i (v := nI (z.2.2.2.2.2.1 + 1)) hx hb hr hlocks hP9 hD9 hS rfl dX8_insertWeight_126
        · have c_71 : ¬ k ≤ i := fun h => c_71 ((nI_leI (a := k) (b := i) (by omega) (by omega)).mpr h)
          refine lv_aload_n hx hb dX8_insertWeight_74 rfl (lv_at hl 1 rfl) ?_
          refine va_get (D := D) (ci := 8) (v := .ref m1) (C := RX8) (T := TX8) (N := 13) hx hb hts inkX8_insertWeight_ok_8 hown hK hP 0 rfl rfl 0 (by decide) (hts (.fieldLink RX8 7 "WeighingConverterModel" "z" "[I") (List.mem_of_getElem? (i := 1) rfl)) (fun _ h9 => h9) rfl dX8_insertWeight_75 ?_
          refine lv_bipush (v := 7) hx hb dX8_insertWeight_78 (by decide) ?_
          refine lv_iload_n hx hb dX8_insertWeight_80 rfl (lv_at hl 0 rfl) ?_
          refine lv_iadd hx hb dX8_insertWeight_81 ?_
          refine k_topi (y := nI (7 + k)) (nI_add 7 k) ?_
          refine lv_aload_n hx hb dX8_insertWeight_82 rfl (lv_at hl 1 rfl) ?_
          refine va_get (D := D) (ci := 8) (v := .ref m1) (C := RX8) (T := TX8) (N := 13) hx hb hts inkX8_insertWeight_ok_8 hown hK hP 0 rfl rfl 0 (by decide) (hts (.fieldLink RX8 7 "WeighingConverterModel" "z" "[I") (List.mem_of_getElem? (i := 1) rfl)) (fun _ h9 => h9) rfl dX8_insertWeight_83 ?_
          refine lv_bipush (v := 7) hx hb dX8_insertWeight_86 (by decide) ?_
          refine lv_iload_n hx hb dX8_insertWeight_88 rfl (lv_at hl 0 rfl) ?_
          refine lv_iadd hx hb dX8_insertWeight_89 ?_
          refine k_topi (y := nI (7 + k)) (nI_add 7 k) ?_
          refine lv_iconst (v := 1) hx hb dX8_insertWeight_90 (by decide) ?_
          refine lv_isub hx hb dX8_insertWeight_91 ?_
          refine k_topi (y := nI ((7 + k) - 1)) (pk_sub (a := (7 + k)) (b := 1) (by omega)) ?_
          refine k_iald (k := (7 + k) - 1) hx hb hK hP 1 0 rfl rfl (by omega) (by decide) dX8_insertWeight_92 ?_
          refine k_topi (y := g (k - 1)) (zArr_wm (by omega) (by omega)) ?_
          refine k_iast (k := 7 + k) hx hb hK hP hD hS 1 0 rfl rfl (by omega) (by decide) dX8_insertWeight_93 (fun H locs hP hD hS => ?_)
          have hP : va_P D vwCl [(m0, .inr (8, [.ref m1, .ref m2, .int (nI (min (sm + 1) 6)), .ref m3, .int (nI ln), .int 0, .ref m4, .int lf, .int kp, .ref m5, .int (nI sp), .ref m6, .int (nI tm)])), (m1, .inl (cI, 43, .inl (upd (zArr (z.1, z.2.1, z.2.2.1, z.2.2.2.1, z.2.2.2.2.1, z.2.2.2.2.2.1, z.2.2.2.2.2.2.1, g, z.2.2.2.2.2.2.2.2.1, z.2.2.2.2.2.2.2.2.2.1, z.2.2.2.2.2.2.2.2.2.2)) (7 + k) (g (k - 1))))), (m2, .inl (cI, 258, .inl (sArr (svS T sm z))))] H := hP
          have hD : va_D A [(m0, .inr (8, [.ref m1, .ref m2, .int (nI (min (sm + 1) 6)), .ref m3, .int (nI ln), .int 0, .ref m4, .int lf, .int kp, .ref m5, .int (nI sp), .ref m6, .int (nI tm)])), (m1, .inl (cI, 43, .inl (upd (zArr (z.1, z.2.1, z.2.2.1, z.2.2.2.1, z.2.2.2.2.1, z.2.2.2.2.2.1, z.2.2.2.2.2.2.1, g, z.2.2.2.2.2.2.2.2.1, z.2.2.2.2.2.2.2.2.2.1, z.2.2.2.2.2.2.2.2.2.2)) (7 + k) (g (k - 1))))), (m2, .inl (cI, 258, .inl (sArr (svS T sm z))))] := hD
          have hP := k_arr hP 1 rfl (g := zArr (z.1, z.2.1, z.2.2.1, z.2.2.2.1, z.2.2.2.2.1, z.2.2.2.2.2.1, z.2.2.2.2.2.2.1, upd g k (g (k - 1)), z.2.2.2.2.2.2.2.2.1, z.2.2.2.2.2.2.2.2.2.1, z.2.2.2.2.2.2.2.2.2.2)) (fun j _ => zArr_sw (z.1, z.2.1, z.2.2.1, z.2.2.2.1, z.2.2.2.2.1, z.2.2.2.2.2.1, z.2.2.2.2.2.2.1, g, z.2.2.2.2.2.2.2.2.1, z.2.2.2.2.2.2.2.2.2.1, z.2.2.2.2.2.2.2.2.2.2) (by omega) _ j)
          have hD := hD.set (p := 1) (e := .inl (cI, 43, .inl (zArr (z.1, z.2.1, z.2.2.1, z.2.2.2.1, z.2.2.2.2.1, z.2.2.2.2.2.1, z.2.2.2.2.2.2.1, upd g k (g (k - 1)), z.2.2.2.2.2.2.2.2.1, z.2.2.2.2.2.2.2.2.2.1, z.2.2.2.2.2.2.2.2.2.2)))) rfl
          have hP : va_P D vwCl [(m0, .inr (8, [.ref m1, .ref m2, .int (nI (min (sm + 1) 6)), .ref m3, .int (nI ln), .int 0, .ref m4, .int lf, .int kp, .ref m5, .int (nI sp), .ref m6, .int (nI tm)])), (m1, .inl (cI, 43, .inl (zArr (z.1, z.2.1, z.2.2.1, z.2.2.2.1, z.2.2.2.2.1, z.2.2.2.2.2.1, z.2.2.2.2.2.2.1, upd g k (g (k - 1)), z.2.2.2.2.2.2.2.2.1, z.2.2.2.2.2.2.2.2.2.1, z.2.2.2.2.2.2.2.2.2.2)))), (m2, .inl (cI, 258, .inl (sArr (svS T sm z))))] H := hP
          have hD : va_D A [(m0, .inr (8, [.ref m1, .ref m2, .int (nI (min (sm + 1) 6)), .ref m3, .int (nI ln), .int 0, .ref m4, .int lf, .int kp, .ref m5, .int (nI sp), .ref m6, .int (nI tm)])), (m1, .inl (cI, 43, .inl (zArr (z.1, z.2.1, z.2.2.1, z.2.2.2.1, z.2.2.2.2.1, z.2.2.2.2.2.1, z.2.2.2.2.2.2.1, upd g k (g (k - 1)), z.2.2.2.2.2.2.2.2.1, z.2.2.2.2.2.2.2.2.2.1, z.2.2.2.2.2.2.2.2.2.2)))), (m2, .inl (cI, 258, .inl (sArr (svS T sm z))))] := hD
          refine lv_iinc (v := nI (k - 1)) (lv' := [(3, .int (nI (k - 1))), (0, .ref m0), (1, .int (nI i)), (2, .int p1)]) hx hb dX8_insertWeight_94 hl (k := 0) rfl (k_dec1 k (by omega)) (by decide) rfl (fun ls hl => ?_)
          refine lv_goto (tgt := 69) hx hb dX8_insertWeight_97 (by decide) ?_
          exact ih69 (k - 1) (upd g k (g (k - 1))) (by first | assumption | omega) (by first | assumption | omega) (fun j => by simp only [upd, hg]; (repeat' split) <;> first | rfl | omega | exact congrArg _ (by omega) | (congr 1; omega)) (by omega) _ _ (hP.sub [0, 1, 2] rfl) (hD.sub [0, 1, 2] (by decide) rfl) hS _ (lv_sub hl [0, 1, 2, 3] rfl)
    exact J69 (z.2.2.2.2.2.1 + 1) z.2.2.2.2.2.1 z.2.2.2.2.2.2.2.1 (by first | assumption | omega) (by first | assumption | omega) (fun j => by rw [if_neg (by omega)]) (Nat.lt_succ_self _) _ _ (hP.sub [0, 1, 2] rfl) (hD.sub [0, 1, 2] (by decide) rfl) hS _ (lv_sub hl [0, 1, 2, 3] rfl)
  · have c_42 : z.2.2.2.2.2.1 = 12 := (nI_eq (a := z.2.2.2.2.2.1) (b := 12) (by omega) (by omega)).mp c_42
    exact absurd hwc (by omega)

theorem inkX8_removeWeight_ok_8 : ∀ w ∈ wsX80, w ∈ wsX8_removeWeight := fun _ h => List.mem_cons_of_mem _ (List.mem_append_right _ h)
abbrev rmkX8_removeWeight_ok : Room := { frames := 2, cells := 0, slots := 0, locals := 45 }
set_option maxHeartbeats 4000000 in
set_option maxRecDepth 100000 in
theorem kX8_removeWeight_ok (l : Launch) (D : va_G) (sz : Nat) (cI : ClassId) (cC : ClassId) (cJ : ClassId) (cZ : ClassId) (cQ : ClassId) (m0 : Nat) (m1 : Nat) (m2 : Nat) (m3 : Nat) (m4 : Nat) (m5 : Nat) (m6 : Nat) (sm : Nat) (ln : Nat) (sp : Nat) (tm : Nat) (th : Int32) (lf : Int32) (kp : Int32) (z : StV) (T : Nat → StV) (i : Nat) (hsm : sm ≤ 6) (hwc : z.2.2.2.2.2.1 ≤ 12) (hi : i < z.2.2.2.2.2.1) (h2 : 2 ≤ z.2.2.2.2.2.1) : Met l yX8_removeWeight wsX8_removeWeight rmkX8_removeWeight_ok (va_Pc [.ref m0, .int (nI i)] (kPre D sz [(m0, .inr (8, [.ref m1, .ref m2, .int (nI sm), .ref m3, .int (nI ln), .int th, .ref m4, .int lf, .int kp, .ref m5, .int (nI sp), .ref m6, .int (nI tm)])), (m1, .inl (cI, 43, .inl (zArr z))), (m2, .inl (cI, 258, .inl (sArr T)))] (kT cI cC cJ cZ cQ))) (kQi D (z.2.2.2.2.2.2.2.1 i) [(m0, .inr (8, [.ref m1, .ref m2, .int (nI (min (sm + 1) 6)), .ref m3, .int (nI ln), .int 0, .ref m4, .int lf, .int kp, .ref m5, .int (nI sp), .ref m6, .int (nI tm)])), (m1, .inl (cI, 43, .inl (zArr (z.1, z.2.1, z.2.2.1, z.2.2.2.1, z.2.2.2.2.1, z.2.2.2.2.2.1 - 1, z.2.2.2.2.2.2.1, delM z.2.2.2.2.2.2.2.1 i z.2.2.2.2.2.1, z.2.2.2.2.2.2.2.2.1, z.2.2.2.2.2.2.2.2.2.1, z.2.2.2.2.2.2.2.2.2.2)))), (m2, .inl (cI, 258, .inl (sArr (svS T sm z))))] (va_A [(m0, .inr (8, [.ref m1, .ref m2, .int (nI sm), .ref m3, .int (nI ln), .int th, .ref m4, .int lf, .int kp, .ref m5, .int (nI sp), .ref m6, .int (nI tm)])), (m1, .inl (cI, 43, .inl (zArr z))), (m2, .inl (cI, 258, .inl (sArr T)))] sz)) 0 0 (va_A [(m0, .inr (8, [.ref m1, .ref m2, .int (nI sm), .ref m3, .int (nI ln), .int th, .ref m4, .int lf, .int kp, .ref m5, .int (nI sp), .ref m6, .int (nI tm)])), (m1, .inl (cI, 43, .inl (zArr z))), (m2, .inl (cI, 258, .inl (sArr T)))] sz) := by
  refine k_met (Qf := kQi D (z.2.2.2.2.2.2.2.1 i) [(m0, .inr (8, [.ref m1, .ref m2, .int (nI (min (sm + 1) 6)), .ref m3, .int (nI ln), .int 0, .ref m4, .int lf, .int kp, .ref m5, .int (nI sp), .ref m6, .int (nI tm)])), (m1, .inl (cI, 43, .inl (zArr (z.1, z.2.1, z.2.2.1, z.2.2.2.1, z.2.2.2.2.1, z.2.2.2.2.2.1 - 1, z.2.2.2.2.2.2.1, delM z.2.2.2.2.2.2.2.1 i z.2.2.2.2.2.1, z.2.2.2.2.2.2.2.2.1, z.2.2.2.2.2.2.2.2.2.1, z.2.2.2.2.2.2.2.2.2.2)))), (m2, .inl (cI, 258, .inl (sArr (svS T sm z))))]) (cc := cX8_removeWeight) (maxL := 4) (ret := (some .int)) (own := RX8) (by decide) rfl (Nat.le_of_ble_eq_true rfl) rfl ?_
  intro p e s m args below meth c ls A H locs hx hb hr hts hown hlocks hml hin hsz hP hK hD hA hS hN hl
  have hl : lv_has ls 4 [(0, .ref m0), (1, .int (nI i))] := hl
  refine lv_aload_n hx hb dX8_removeWeight_0 rfl (lv_at hl 0 rfl) ?_
  refine lv_aload_n hx hb dX8_removeWeight_1 rfl (lv_at hl 0 rfl) ?_
  refine lv_iload_n hx hb dX8_removeWeight_2 rfl (lv_at hl 1 rfl) ?_
  refine kv_i (As := [.int (nI i)]) (rest := [.ref m0]) (wr := [(m2, .inl (cI, 258, .inl (sArr T)))]) ⟨hx, hb, hml, hown, hts⟩ (kX8_isWeight l D H.size cI cC cJ cZ cQ m0 m1 m2 m3 m4 m5 m6 sm ln sp tm th lf kp z (nI i)) (cwV 1 hts gX8_removeWeight_X8_isWeight rfl rfl rfl (by decide +kernel) ⟨Nat.le_of_ble_eq_true rfl, Nat.le_of_ble_eq_true rfl⟩) hP hD hK hS hA hN [0, 1] [2] rfl rfl (by decide) (by decide) (by decide) 0 8 rfl rfl rfl rfl hl.1 rfl (Nat.le_of_ble_eq_true rfl) dX8_removeWeight_3 ⟨Nat.zero_le _, Nat.zero_le _⟩ (fun H locs hP hD hS => ?_)
  have hP : va_P D vwCl [(m2, .inl (cI, 258, .inl (sArr T))), (m0, .inr (8, [.ref m1, .ref m2, .int (nI sm), .ref m3, .int (nI ln), .int th, .ref m4, .int lf, .int kp, .ref m5, .int (nI sp), .ref m6, .int (nI tm)])), (m1, .inl (cI, 43, .inl (zArr z)))] H := hP
  have hD : va_D A [(m2, .inl (cI, 258, .inl (sArr T))), (m0, .inr (8, [.ref m1, .ref m2, .int (nI sm), .ref m3, .int (nI ln), .int th, .ref m4, .int lf, .int kp, .ref m5, .int (nI sp), .ref m6, .int (nI tm)])), (m1, .inl (cI, 43, .inl (zArr z)))] := hD
  refine k_topi (y := 1) (inM_w (by omega) (by omega)) ?_
  refine lv_if_ne (tgt := 13) hx hb dX8_removeWeight_6 (by decide) (fun _ => ?_) (fun h => absurd h (by decide))
  refine lv_aload_n hx hb dX8_removeWeight_13 rfl (lv_at hl 0 rfl) ?_
  refine va_get (D := D) (ci := 8) (v := .ref m1) (C := RX8) (T := TX8) (N := 13) hx hb hts inkX8_removeWeight_ok_8 hown hK hP 1 rfl rfl 0 (by decide) (hts (.fieldLink RX8 7 "WeighingConverterModel" "z" "[I") (List.mem_of_getElem? (i := 1) rfl)) (fun _ h9 => h9) rfl dX8_removeWeight_14 ?_
  refine lv_iconst (v := 5) hx hb dX8_removeWeight_17 (by decide) ?_
  refine k_iald (k := 5) hx hb hK hP 2 0 rfl rfl (by omega) (by decide) dX8_removeWeight_18 ?_
  refine k_topi (y := nI z.2.2.2.2.2.1) rfl ?_
  refine lv_iconst (v := 1) hx hb dX8_removeWeight_19 (by decide) ?_
  refine lv_icmp_ne (tgt := 27) hx hb dX8_removeWeight_20 (by decide) (fun c_20 => ?_) (fun c_20 => ?_)
  · have c_20 : ¬ z.2.2.2.2.2.1 = 1 := fun h => c_20 ((nI_eq (a := z.2.2.2.2.2.1) (b := 1) (by omega) (by omega)).mpr h)
    refine lv_iconst (v := 0) hx hb dX8_removeWeight_27 (by decide) ?_
    refine kv_i (As := [.int 0]) (rest := []) (wr := [(m2, .inl (cI, 258, .inl (sArr T))), (m1, .inl (cI, 43, .inl (zArr z)))]) ⟨hx, hb, hml, hown, hts⟩ (kX8_refused l D H.size cI cC cJ cZ cQ m0 m1 m2 m3 m4 m5 m6 sm ln sp tm th lf kp 0) (cwV 1 hts gX8_removeWeight_X8_refused rfl rfl rfl (by decide +kernel) ⟨Nat.le_of_ble_eq_true rfl, Nat.le_of_ble_eq_true rfl⟩) hP hD hK hS hA hN [1] [0, 2] rfl rfl (by decide) (by decide) (by decide) 1 8 rfl rfl rfl rfl hl.1 rfl (Nat.le_of_ble_eq_true rfl) dX8_removeWeight_28 ⟨Nat.zero_le _, Nat.zero_le _⟩ (fun H locs hP hD hS => ?_)
    have hP : va_P D vwCl [(m2, .inl (cI, 258, .inl (sArr T))), (m1, .inl (cI, 43, .inl (zArr z))), (m0, .inr (8, [.ref m1, .ref m2, .int (nI sm), .ref m3, .int (nI ln), .int 0, .ref m4, .int lf, .int kp, .ref m5, .int (nI sp), .ref m6, .int (nI tm)]))] H := hP
    have hD : va_D A [(m2, .inl (cI, 258, .inl (sArr T))), (m1, .inl (cI, 43, .inl (zArr z))), (m0, .inr (8, [.ref m1, .ref m2, .int (nI sm), .ref m3, .int (nI ln), .int 0, .ref m4, .int lf, .int kp, .ref m5, .int (nI sp), .ref m6, .int (nI tm)]))] := hD
    refine k_topi (y := 0) rfl ?_
    refine lv_if_eq (tgt := 36) hx hb dX8_removeWeight_31 (by decide) (fun _ => ?_) (fun h => absurd h (by decide))
    refine lv_aload_n hx hb dX8_removeWeight_36 rfl (lv_at hl 0 rfl) ?_
    refine kv_v (As := []) (rest := []) (wr := []) ⟨hx, hb, hml, hown, hts⟩ (kX8_saveState l D H.size cI cC cJ cZ cQ m0 m1 m2 m3 m4 m5 m6 sm ln sp tm 0 lf kp z T (by first | assumption | omega)) (cwV 0 hts gX8_removeWeight_X8_saveState rfl rfl rfl (by decide +kernel) ⟨Nat.le_of_ble_eq_true rfl, Nat.le_of_ble_eq_true rfl⟩) hP hD hK hS hA hN [2, 1, 0] [] rfl rfl (by decide) (by decide) (by decide) 2 8 rfl rfl rfl rfl hl.1 rfl (Nat.le_of_ble_eq_true rfl) dX8_removeWeight_37 ⟨Nat.zero_le _, Nat.zero_le _⟩ (fun H locs hP hD hS => ?_)
    have hP : va_P D vwCl [(m0, .inr (8, [.ref m1, .ref m2, .int (nI (min (sm + 1) 6)), .ref m3, .int (nI ln), .int 0, .ref m4, .int lf, .int kp, .ref m5, .int (nI sp), .ref m6, .int (nI tm)])), (m1, .inl (cI, 43, .inl (zArr z))), (m2, .inl (cI, 258, .inl (sArr (svS T sm z))))] H := hP
    have hD : va_D A [(m0, .inr (8, [.ref m1, .ref m2, .int (nI (min (sm + 1) 6)), .ref m3, .int (nI ln), .int 0, .ref m4, .int lf, .int kp, .ref m5, .int (nI sp), .ref m6, .int (nI tm)])), (m1, .inl (cI, 43, .inl (zArr z))), (m2, .inl (cI, 258, .inl (sArr (svS T sm z))))] := hD
    refine lv_aload_n hx hb dX8_removeWeight_40 rfl (lv_at hl 0 rfl) ?_
    refine va_get (D := D) (ci := 8) (v := .ref m1) (C := RX8) (T := TX8) (N := 13) hx hb hts inkX8_removeWeight_ok_8 hown hK hP 0 rfl rfl 0 (by decide) (hts (.fieldLink RX8 7 "WeighingConverterModel" "z" "[I") (List.mem_of_getElem? (i := 1) rfl)) (fun _ h9 => h9) rfl dX8_removeWeight_41 ?_
    refine lv_bipush (v := 7) hx hb dX8_removeWeight_44 (by decide) ?_
    refine lv_iload_n hx hb dX8_removeWeight_46 rfl (lv_at hl 1 rfl) ?_
    refine lv_iadd hx hb dX8_removeWeight_47 ?_
    refine k_topi (y := nI (7 + i)) (nI_add 7 i) ?_
    refine k_iald (k := 7 + i) hx hb hK hP 1 0 rfl rfl (by omega) (by decide) dX8_removeWeight_48 ?_
    refine k_topi (y := z.2.2.2.2.2.2.2.1 i) (zArr_w (by omega)) ?_
    refine lv_istore_n (lv' := [(2, .int (z.2.2.2.2.2.2.2.1 i)), (0, .ref m0), (1, .int (nI i))]) hx hb dX8_removeWeight_49 rfl hl (by decide) rfl (fun ls hl => ?_)
    refine lv_aload_n hx hb dX8_removeWeight_50 rfl (lv_at hl 1 rfl) ?_
    refine va_get (D := D) (ci := 8) (v := .ref m1) (C := RX8) (T := TX8) (N := 13) hx hb hts inkX8_removeWeight_ok_8 hown hK hP 0 rfl rfl 0 (by decide) (hts (.fieldLink RX8 7 "WeighingConverterModel" "z" "[I") (List.mem_of_getElem? (i := 1) rfl)) (fun _ h9 => h9) rfl dX8_removeWeight_51 ?_
    refine lv_iconst (v := 5) hx hb dX8_removeWeight_54 (by decide) ?_
    refine lv_dup2_11 hx hb dX8_removeWeight_55 rfl rfl ?_
    refine k_iald (k := 5) hx hb hK hP 1 0 rfl rfl (by omega) (by decide) dX8_removeWeight_56 ?_
    refine k_topi (y := nI z.2.2.2.2.2.1) rfl ?_
    refine lv_iconst (v := 1) hx hb dX8_removeWeight_57 (by decide) ?_
    refine lv_isub hx hb dX8_removeWeight_58 ?_
    refine k_topi (y := nI (z.2.2.2.2.2.1 - 1)) (pk_sub (a := z.2.2.2.2.2.1) (b := 1) (by omega)) ?_
    refine k_iast (k := 5) hx hb hK hP hD hS 1 0 rfl rfl (by omega) (by decide) dX8_removeWeight_59 (fun H locs hP hD hS => ?_)
    have hP : va_P D vwCl [(m0, .inr (8, [.ref m1, .ref m2, .int (nI (min (sm + 1) 6)), .ref m3, .int (nI ln), .int 0, .ref m4, .int lf, .int kp, .ref m5, .int (nI sp), .ref m6, .int (nI tm)])), (m1, .inl (cI, 43, .inl (upd (zArr z) 5 (nI (z.2.2.2.2.2.1 - 1))))), (m2, .inl (cI, 258, .inl (sArr (svS T sm z))))] H := hP
    have hD : va_D A [(m0, .inr (8, [.ref m1, .ref m2, .int (nI (min (sm + 1) 6)), .ref m3, .int (nI ln), .int 0, .ref m4, .int lf, .int kp, .ref m5, .int (nI sp), .ref m6, .int (nI tm)])), (m1, .inl (cI, 43, .inl (upd (zArr z) 5 (nI (z.2.2.2.2.2.1 - 1))))), (m2, .inl (cI, 258, .inl (sArr (svS T sm z))))] := hD
    have hP := k_arr hP 1 rfl (g := zArr (z.1, z.2.1, z.2.2.1, z.2.2.2.1, z.2.2.2.2.1, z.2.2.2.2.2.1 - 1, z.2.2.2.2.2.2.1, z.2.2.2.2.2.2.2.1, z.2.2.2.2.2.2.2.2.1, z.2.2.2.2.2.2.2.2.2.1, z.2.2.2.2.2.2.2.2.2.2)) (fun j _ => zArr_s5 z _ j)
    have hD := hD.set (p := 1) (e := .inl (cI, 43, .inl (zArr (z.1, z.2.1, z.2.2.1, z.2.2.2.1, z.2.2.2.2.1, z.2.2.2.2.2.1 - 1, z.2.2.2.2.2.2.1, z.2.2.2.2.2.2.2.1, z.2.2.2.2.2.2.2.2.1, z.2.2.2.2.2.2.2.2.2.1, z.2.2.2.2.2.2.2.2.2.2)))) rfl
    have hP : va_P D vwCl [(m0, .inr (8, [.ref m1, .ref m2, .int (nI (min (sm + 1) 6)), .ref m3, .int (nI ln), .int 0, .ref m4, .int lf, .int kp, .ref m5, .int (nI sp), .ref m6, .int (nI tm)])), (m1, .inl (cI, 43, .inl (zArr (z.1, z.2.1, z.2.2.1, z.2.2.2.1, z.2.2.2.2.1, z.2.2.2.2.2.1 - 1, z.2.2.2.2.2.2.1, z.2.2.2.2.2.2.2.1, z.2.2.2.2.2.2.2.2.1, z.2.2.2.2.2.2.2.2.2.1, z.2.2.2.2.2.2.2.2.2.2)))), (m2, .inl (cI, 258, .inl (sArr (svS T sm z))))] H := hP
    have hD : va_D A [(m0, .inr (8, [.ref m1, .ref m2, .int (nI (min (sm + 1) 6)), .ref m3, .int (nI ln), .int 0, .ref m4, .int lf, .int kp, .ref m5, .int (nI sp), .ref m6, .int (nI tm)])), (m1, .inl (cI, 43, .inl (zArr (z.1, z.2.1, z.2.2.1, z.2.2.2.1, z.2.2.2.2.1, z.2.2.2.2.2.1 - 1, z.2.2.2.2.2.2.1, z.2.2.2.2.2.2.2.1, z.2.2.2.2.2.2.2.2.1, z.2.2.2.2.2.2.2.2.2.1, z.2.2.2.2.2.2.2.2.2.2)))), (m2, .inl (cI, 258, .inl (sArr (svS T sm z))))] := hD
    refine lv_iload_n hx hb dX8_removeWeight_60 rfl (lv_at hl 2 rfl) ?_
    refine lv_istore_n (lv' := [(3, .int (nI i)), (2, .int (z.2.2.2.2.2.2.2.1 i)), (0, .ref m0), (1, .int (nI i))]) hx hb dX8_removeWeight_61 rfl hl (by decide) rfl (fun ls hl => ?_)
    have J62 : ∀ (fuel : Nat) (k : Nat) (g : Nat → Int32) (hk : i ≤ k) (hk2 : k ≤ z.2.2.2.2.2.1 - 1) (hg : ∀ j, g j = if i ≤ j ∧ j < k then z.2.2.2.2.2.2.2.1 (j + 1) else z.2.2.2.2.2.2.2.1 j) (hm : z.2.2.2.2.2.1 - 1 - k < fuel) (H : Heap) (locs : List Loc) (hP : va_P D vwCl [(m0, .inr (8, [.ref m1, .ref m2, .int (nI (min (sm + 1) 6)), .ref m3, .int (nI ln), .int 0, .ref m4, .int lf, .int kp, .ref m5, .int (nI sp), .ref m6, .int (nI tm)])), (m1, .inl (cI, 43, .inl (zArr (z.1, z.2.1, z.2.2.1, z.2.2.2.1, z.2.2.2.2.1, z.2.2.2.2.2.1 - 1, z.2.2.2.2.2.2.1, g, z.2.2.2.2.2.2.2.2.1, z.2.2.2.2.2.2.2.2.2.1, z.2.2.2.2.2.2.2.2.2.2)))), (m2, .inl (cI, 258, .inl (sArr (svS T sm z))))] H) (hD : va_D A [(m0, .inr (8, [.ref m1, .ref m2, .int (nI (min (sm + 1) 6)), .ref m3, .int (nI ln), .int 0, .ref m4, .int lf, .int kp, .ref m5, .int (nI sp), .ref m6, .int (nI tm)])), (m1, .inl (cI, 43, .inl (zArr (z.1, z.2.1, z.2.2.1, z.2.2.2.1, z.2.2.2.2.1, z.2.2.2.2.2.1 - 1, z.2.2.2.2.2.2.1, g, z.2.2.2.2.2.2.2.2.1, z.2.2.2.2.2.2.2.2.2.1, z.2.2.2.2.2.2.2.2.2.2)))), (m2, .inl (cI, 258, .inl (sArr (svS T sm z))))]) (hS : va_S A s.heap H locs) (ls : Array Slot) (hl : lv_has ls 4 [(3, .int (nI k)), (2, .int (z.2.2.2.2.2.2.2.1 i)), (0, .ref m0), (1, .int (nI i))]), W p l e rmkX8_removeWeight_ok s m args below meth c H locs 0 0 (MQ below (kQi D (z.2.2.2.2.2.2.2.1 i) [(m0, .inr (8, [.ref m1, .ref m2, .int (nI (min (sm + 1) 6)), .ref m3, .int (nI ln), .int 0, .ref m4, .int lf, .int kp, .ref m5, .int (nI sp), .ref m6, .int (nI tm)])), (m1, .inl (cI, 43, .inl (zArr (z.1, z.2.1, z.2.2.1, z.2.2.2.1, z.2.2.2.2.1, z.2.2.2.2.2.1 - 1, z.2.2.2.2.2.2.1, delM z.2.2.2.2.2.2.2.1 i z.2.2.2.2.2.1, z.2.2.2.2.2.2.2.2.1, z.2.2.2.2.2.2.2.2.2.1, z.2.2.2.2.2.2.2.2.2.2)))), (m2, .inl (cI, 258, .inl (sArr (svS T sm z))))] A) args s 0 0 A) (F0 m 62 ls []) := by
      intro fuel
      induction fuel with
      | zero => intro k g hk hk2 hg hm; exact absurd hm (Nat.not_lt_zero _)
      | succ fuel ih62 =>
        intro k g hk hk2 hg hm H locs hP hD hS ls hl
        refine lv_iload_n hx hb dX8_removeWeight_62 rfl (lv_at hl 0 rfl) ?_
        refine lv_aload_n hx hb dX8_removeWeight_63 rfl (lv_at hl 2 rfl) ?_
        refine va_get (D := D) (ci := 8) (v := .ref m1) (C := RX8) (T := TX8) (N := 13) hx hb hts inkX8_removeWeight_ok_8 hown hK hP 0 rfl rfl 0 (by decide) (hts (.fieldLink RX8 7 "WeighingConverterModel" "z" "[I") (List.mem_of_getElem? (i := 1) rfl)) (fun _ h9 => h9) rfl dX8_removeWeight_64 ?_
        refine lv_iconst (v := 5) hx hb dX8_removeWeight_67 (by decide) ?_
        refine k_iald (k := 5) hx hb hK hP 1 0 rfl rfl (by omega) (by decide) dX8_removeWeight_68 ?_
        refine k_topi (y := nI (z.2.2.2.2.2.1 - 1)) rfl ?_
        refine lv_icmp_ge (tgt := 98) hx hb dX8_removeWeight_69 (by decide) (fun c_69 => ?_) (fun c_69 => ?_)
        · have c_69 : (z.2.2.2.2.2.1 - 1) ≤ k := (nI_leI (a := (z.2.2.2.2.2.1 - 1)) (b := k) (by omega) (by omega)).mp c_69
          refine lv_aload_n hx hb dX8_removeWeight_98 rfl (lv_at hl 2 rfl) ?_
          refine va_get (D := D) (ci := 8) (v := .ref m1) (C := RX8) (T := TX8) (N := 13) hx hb hts inkX8_removeWeight_ok_8 hown hK hP 0 rfl rfl 0 (by decide) (hts (.fieldLink RX8 7 "WeighingConverterModel" "z" "[I") (List.mem_of_getElem? (i := 1) rfl)) (fun _ h9 => h9) rfl dX8_removeWeight_99 ?_
          refine lv_bipush (v := 7) hx hb dX8_removeWeight_102 (by decide) ?_
          refine lv_aload_n hx hb dX8_removeWeight_104 rfl (lv_at hl 2 rfl) ?_
          refine va_get (D := D) (ci := 8) (v := .ref m1) (C := RX8) (T := TX8) (N := 13) hx hb hts inkX8_removeWeight_ok_8 hown hK hP 0 rfl rfl 0 (by decide) (hts (.fieldLink RX8 7 "WeighingConverterModel" "z" "[I") (List.mem_of_getElem? (i := 1) rfl)) (fun _ h9 => h9) rfl dX8_removeWeight_105 ?_
          refine lv_iconst (v := 5) hx hb dX8_removeWeight_108 (by decide) ?_
          refine k_iald (k := 5) hx hb hK hP 1 0 rfl rfl (by omega) (by decide) dX8_removeWeight_109 ?_
          refine k_topi (y := nI (z.2.2.2.2.2.1 - 1)) rfl ?_
          refine lv_iadd hx hb dX8_removeWeight_110 ?_
          refine k_topi (y := nI (7 + (z.2.2.2.2.2.1 - 1))) (nI_add 7 (z.2.2.2.2.2.1 - 1)) ?_
          refine lv_iconst (v := 0) hx hb dX8_removeWeight_111 (by decide) ?_
          refine k_iast (k := 7 + (z.2.2.2.2.2.1 - 1)) hx hb hK hP hD hS 1 0 rfl rfl (by omega) (by decide) dX8_removeWeight_112 (fun H locs hP hD hS => ?_)
          have hP : va_P D vwCl [(m0, .inr (8, [.ref m1, .ref m2, .int (nI (min (sm + 1) 6)), .ref m3, .int (nI ln), .int 0, .ref m4, .int lf, .int kp, .ref m5, .int (nI sp), .ref m6, .int (nI tm)])), (m1, .inl (cI, 43, .inl (upd (zArr (z.1, z.2.1, z.2.2.1, z.2.2.2.1, z.2.2.2.2.1, z.2.2.2.2.2.1 - 1, z.2.2.2.2.2.2.1, g, z.2.2.2.2.2.2.2.2.1, z.2.2.2.2.2.2.2.2.2.1, z.2.2.2.2.2.2.2.2.2.2)) (7 + (z.2.2.2.2.2.1 - 1)) 0))), (m2, .inl (cI, 258, .inl (sArr (svS T sm z))))] H := hP
          have hD : va_D A [(m0, .inr (8, [.ref m1, .ref m2, .int (nI (min (sm + 1) 6)), .ref m3, .int (nI ln), .int 0, .ref m4, .int lf, .int kp, .ref m5, .int (nI sp), .ref m6, .int (nI tm)])), (m1, .inl (cI, 43, .inl (upd (zArr (z.1, z.2.1, z.2.2.1, z.2.2.2.1, z.2.2.2.2.1, z.2.2.2.2.2.1 - 1, z.2.2.2.2.2.2.1, g, z.2.2.2.2.2.2.2.2.1, z.2.2.2.2.2.2.2.2.2.1, z.2.2.2.2.2.2.2.2.2.2)) (7 + (z.2.2.2.2.2.1 - 1)) 0))), (m2, .inl (cI, 258, .inl (sArr (svS T sm z))))] := hD
          have hP := k_arr hP 1 rfl (g := zArr (z.1, z.2.1, z.2.2.1, z.2.2.2.1, z.2.2.2.2.1, z.2.2.2.2.2.1 - 1, z.2.2.2.2.2.2.1, upd g (z.2.2.2.2.2.1 - 1) 0, z.2.2.2.2.2.2.2.2.1, z.2.2.2.2.2.2.2.2.2.1, z.2.2.2.2.2.2.2.2.2.2)) (fun j _ => zArr_sw (z.1, z.2.1, z.2.2.1, z.2.2.2.1, z.2.2.2.2.1, z.2.2.2.2.2.1 - 1, z.2.2.2.2.2.2.1, g, z.2.2.2.2.2.2.2.2.1, z.2.2.2.2.2.2.2.2.2.1, z.2.2.2.2.2.2.2.2.2.2) (by omega) _ j)
          have hD := hD.set (p := 1) (e := .inl (cI, 43, .inl (zArr (z.1, z.2.1, z.2.2.1, z.2.2.2.1, z.2.2.2.2.1, z.2.2.2.2.2.1 - 1, z.2.2.2.2.2.2.1, upd g (z.2.2.2.2.2.1 - 1) 0, z.2.2.2.2.2.2.2.2.1, z.2.2.2.2.2.2.2.2.2.1, z.2.2.2.2.2.2.2.2.2.2)))) rfl
          have hP : va_P D vwCl [(m0, .inr (8, [.ref m1, .ref m2, .int (nI (min (sm + 1) 6)), .ref m3, .int (nI ln), .int 0, .ref m4, .int lf, .int kp, .ref m5, .int (nI sp), .ref m6, .int (nI tm)])), (m1, .inl (cI, 43, .inl (zArr (z.1, z.2.1, z.2.2.1, z.2.2.2.1, z.2.2.2.2.1, z.2.2.2.2.2.1 - 1, z.2.2.2.2.2.2.1, upd g (z.2.2.2.2.2.1 - 1) 0, z.2.2.2.2.2.2.2.2.1, z.2.2.2.2.2.2.2.2.2.1, z.2.2.2.2.2.2.2.2.2.2)))), (m2, .inl (cI, 258, .inl (sArr (svS T sm z))))] H := hP
          have hD : va_D A [(m0, .inr (8, [.ref m1, .ref m2, .int (nI (min (sm + 1) 6)), .ref m3, .int (nI ln), .int 0, .ref m4, .int lf, .int kp, .ref m5, .int (nI sp), .ref m6, .int (nI tm)])), (m1, .inl (cI, 43, .inl (zArr (z.1, z.2.1, z.2.2.1, z.2.2.2.1, z.2.2.2.2.1, z.2.2.2.2.2.1 - 1, z.2.2.2.2.2.2.1, upd g (z.2.2.2.2.2.1 - 1) 0, z.2.2.2.2.2.2.2.2.1, z.2.2.2.2.2.2.2.2.2.1, z.2.2.2.2.2.2.2.2.2.2)))), (m2, .inl (cI, 258, .inl (sArr (svS T sm z))))] := hD
          refine lv_iload_n hx hb dX8_removeWeight_113 rfl (lv_at hl 1 rfl) ?_
          have hP := k_arr hP 1 rfl (g := zArr (z.1, z.2.1, z.2.2.1, z.2.2.2.1, z.2.2.2.2.1, z.2.2.2.2.2.1 - 1, z.2.2.2.2.2.2.1, delM z.2.2.2.2.2.2.2.1 i z.2.2.2.2.2.1, z.2.2.2.2.2.2.2.2.1, z.2.2.2.2.2.2.2.2.2.1, z.2.2.2.2.2.2.2.2.2.2)) (fun j _ => zArr_cf _ _ (fun j9 _ => by simp only [delM, upd, hg]; (repeat' split) <;> first | rfl | omega | exact congrArg _ (by omega) | (congr 1; omega)) j)
          have hD := hD.set (p := 1) (e := .inl (cI, 43, .inl (zArr (z.1, z.2.1, z.2.2.1, z.2.2.2.1, z.2.2.2.2.1, z.2.2.2.2.2.1 - 1, z.2.2.2.2.2.2.1, delM z.2.2.2.2.2.2.2.1 i z.2.2.2.2.2.1, z.2.2.2.2.2.2.2.2.1, z.2.2.2.2.2.2.2.2.2.1, z.2.2.2.2.2.2.2.2.2.2)))) rfl
          have hP : va_P D vwCl [(m0, .inr (8, [.ref m1, .ref m2, .int (nI (min (sm + 1) 6)), .ref m3, .int (nI ln), .int 0, .ref m4, .int lf, .int kp, .ref m5, .int (nI sp), .ref m6, .int (nI tm)])), (m1, .inl (cI, 43, .inl (zArr (z.1, z.2.1, z.2.2.1, z.2.2.2.1, z.2.2.2.2.1, z.2.2.2.2.2.1 - 1, z.2.2.2.2.2.2.1, delM z.2.2.2.2.2.2.2.1 i z.2.2.2.2.2.1, z.2.2.2.2.2.2.2.2.1, z.2.2.2.2.2.2.2.2.2.1, z.2.2.2.2.2.2.2.2.2.2)))), (m2, .inl (cI, 258, .inl (sArr (svS T sm z))))] H := hP
          have hD : va_D A [(m0, .inr (8, [.ref m1, .ref m2, .int (nI (min (sm + 1) 6)), .ref m3, .int (nI ln), .int 0, .ref m4, .int lf, .int kp, .ref m5, .int (nI sp), .ref m6, .int (nI tm)])), (m1, .inl (cI, 43, .inl (zArr (z.1, z.2.1, z.2.2.1, z.2.2.2.1, z.2.2.2.2.1, z.2.2.2.2.2.1 - 1, z.2.2.2.2.2.2.1, delM z.2.2.2.2.2.2.2.1 i z.2.2.2.2.2.1, z.2.2.2.2.2.2.2.2.1, z.2.2.2.2.2.2.2.2.2.1, z.2.2.2.2.2.2.2.2.2.2)))), (m2, .inl (cI, 258, .inl (sArr (svS T sm z))))] := hD
          have hP9 := hP.sub (ws' := [(m0, .inr (8, [.ref m1, .ref m2, .int (nI (min (sm + 1) 6)), .ref m3, .int (nI ln), .int 0, .ref m4, .int lf, .int kp, .ref m5, .int (nI sp), .ref m6, .int (nI tm)])), (m1, .inl (cI, 43, .inl (zArr (z.1, z.2.1, z.2.2.1, z.2.2.2.1, z.2.2.2.2.1, z.2.2.2.2.2.1 - 1, z.2.2.2.2.2.2.1, delM z.2.2.2.2.2.2.2.1 i z.2.2.2.2.2.1, z.2.2.2.2.2.2.2.2.1, z.2.2.2.2.2.2.2.2.2.1, z.2.2.2.2.2.2.2.2.2.2)))), (m2, .inl (cI, 258, .inl (sArr (svS T sm z))))]) [0, 1, 2] rfl
          have hD9 := hD.sub (ws' := [(m0, .inr (8, [.ref m1, .ref m2, .int (nI (min (sm + 1) 6)), .ref m3, .int (nI ln), .int 0, .ref m4, .int lf, .int kp, .ref m5, .int (nI sp), .ref m6, .int (nI tm)])), (m1, .inl (cI, 43, .inl (zArr (z.1, z.2.1, z.2.2.1, z.2.2.2.1, z.2.2.2.2.1, z.2.2.2.2.2.1 - 1, z.2.2.2.2.2.2.1, delM z.2.2.2.2.2.2.2.1 i z.2.2.2.2.2.1, z.2.2.2.2.2.2.2.2.1, z.2.2.2.2.2.2.2.2.2.1, z.2.2.2.2.2.2.2.2.2.2)))), (m2, .inl (cI, 258, .inl (sArr (svS T sm z))))]) [0, 1, 2] (by decide) rfl
          exact kr_i (v := z.2.2.2.2.2.2.2.1 i) hx hb hr hlocks hP9 hD9 hS rfl dX8_removeWeight_114
        · have c_69 : ¬ (z.2.2.2.2.2.1 - 1) ≤ k := fun h => c_69 ((nI_leI (a := (z.2.2.2.2.2.1 - 1)) (b := k) (by omega) (by omega)).mpr h)
          refine lv_aload_n hx hb dX8_removeWeight_72 rfl (lv_at hl 2 rfl) ?_
          refine va_get (D := D) (ci := 8) (v := .ref m1) (C := RX8) (T := TX8) (N := 13) hx hb hts inkX8_removeWeight_ok_8 hown hK hP 0 rfl rfl 0 (by decide) (hts (.fieldLink RX8 7 "WeighingConverterModel" "z" "[I") (List.mem_of_getElem? (i := 1) rfl)) (fun _ h9 => h9) rfl dX8_removeWeight_73 ?_
          refine lv_bipush (v := 7) hx hb dX8_removeWeight_76 (by decide) ?_
          refine lv_iload_n hx hb dX8_removeWeight_78 rfl (lv_at hl 0 rfl) ?_
          refine lv_iadd hx hb dX8_removeWeight_79 ?_
          refine k_topi (y := nI (7 + k)) (nI_add 7 k) ?_
          refine lv_aload_n hx hb dX8_removeWeight_80 rfl (lv_at hl 2 rfl) ?_
          refine va_get (D := D) (ci := 8) (v := .ref m1) (C := RX8) (T := TX8) (N := 13) hx hb hts inkX8_removeWeight_ok_8 hown hK hP 0 rfl rfl 0 (by decide) (hts (.fieldLink RX8 7 "WeighingConverterModel" "z" "[I") (List.mem_of_getElem? (i := 1) rfl)) (fun _ h9 => h9) rfl dX8_removeWeight_81 ?_
          refine lv_bipush (v := 7) hx hb dX8_removeWeight_84 (by decide) ?_
          refine lv_iload_n hx hb dX8_removeWeight_86 rfl (lv_at hl 0 rfl) ?_
          refine lv_iadd hx hb dX8_removeWeight_87 ?_
          refine k_topi (y := nI (7 + k)) (nI_add 7 k) ?_
          refine lv_iconst (v := 1) hx hb dX8_removeWeight_88 (by decide) ?_
          refine lv_iadd hx hb dX8_removeWeight_89 ?_
          refine k_topi (y := nI ((7 + k) + 1)) (nI_add (7 + k) 1) ?_
          refine k_iald (k := (7 + k) + 1) hx hb hK hP 1 0 rfl rfl (by omega) (by decide) dX8_removeWeight_90 ?_
          refine k_topi (y := g (k + 1)) (zArr_wp (by omega)) ?_
          refine k_iast (k := 7 + k) hx hb hK hP hD hS 1 0 rfl rfl (by omega) (by decide) dX8_removeWeight_91 (fun H locs hP hD hS => ?_)
          have hP : va_P D vwCl [(m0, .inr (8, [.ref m1, .ref m2, .int (nI (min (sm + 1) 6)), .ref m3, .int (nI ln), .int 0, .ref m4, .int lf, .int kp, .ref m5, .int (nI sp), .ref m6, .int (nI tm)])), (m1, .inl (cI, 43, .inl (upd (zArr (z.1, z.2.1, z.2.2.1, z.2.2.2.1, z.2.2.2.2.1, z.2.2.2.2.2.1 - 1, z.2.2.2.2.2.2.1, g, z.2.2.2.2.2.2.2.2.1, z.2.2.2.2.2.2.2.2.2.1, z.2.2.2.2.2.2.2.2.2.2)) (7 + k) (g (k + 1))))), (m2, .inl (cI, 258, .inl (sArr (svS T sm z))))] H := hP
          have hD : va_D A [(m0, .inr (8, [.ref m1, .ref m2, .int (nI (min (sm + 1) 6)), .ref m3, .int (nI ln), .int 0, .ref m4, .int lf, .int kp, .ref m5, .int (nI sp), .ref m6, .int (nI tm)])), (m1, .inl (cI, 43, .inl (upd (zArr (z.1, z.2.1, z.2.2.1, z.2.2.2.1, z.2.2.2.2.1, z.2.2.2.2.2.1 - 1, z.2.2.2.2.2.2.1, g, z.2.2.2.2.2.2.2.2.1, z.2.2.2.2.2.2.2.2.2.1, z.2.2.2.2.2.2.2.2.2.2)) (7 + k) (g (k + 1))))), (m2, .inl (cI, 258, .inl (sArr (svS T sm z))))] := hD
          have hP := k_arr hP 1 rfl (g := zArr (z.1, z.2.1, z.2.2.1, z.2.2.2.1, z.2.2.2.2.1, z.2.2.2.2.2.1 - 1, z.2.2.2.2.2.2.1, upd g k (g (k + 1)), z.2.2.2.2.2.2.2.2.1, z.2.2.2.2.2.2.2.2.2.1, z.2.2.2.2.2.2.2.2.2.2)) (fun j _ => zArr_sw (z.1, z.2.1, z.2.2.1, z.2.2.2.1, z.2.2.2.2.1, z.2.2.2.2.2.1 - 1, z.2.2.2.2.2.2.1, g, z.2.2.2.2.2.2.2.2.1, z.2.2.2.2.2.2.2.2.2.1, z.2.2.2.2.2.2.2.2.2.2) (by omega) _ j)
          have hD := hD.set (p := 1) (e := .inl (cI, 43, .inl (zArr (z.1, z.2.1, z.2.2.1, z.2.2.2.1, z.2.2.2.2.1, z.2.2.2.2.2.1 - 1, z.2.2.2.2.2.2.1, upd g k (g (k + 1)), z.2.2.2.2.2.2.2.2.1, z.2.2.2.2.2.2.2.2.2.1, z.2.2.2.2.2.2.2.2.2.2)))) rfl
          have hP : va_P D vwCl [(m0, .inr (8, [.ref m1, .ref m2, .int (nI (min (sm + 1) 6)), .ref m3, .int (nI ln), .int 0, .ref m4, .int lf, .int kp, .ref m5, .int (nI sp), .ref m6, .int (nI tm)])), (m1, .inl (cI, 43, .inl (zArr (z.1, z.2.1, z.2.2.1, z.2.2.2.1, z.2.2.2.2.1, z.2.2.2.2.2.1 - 1, z.2.2.2.2.2.2.1, upd g k (g (k + 1)), z.2.2.2.2.2.2.2.2.1, z.2.2.2.2.2.2.2.2.2.1, z.2.2.2.2.2.2.2.2.2.2)))), (m2, .inl (cI, 258, .inl (sArr (svS T sm z))))] H := hP
          have hD : va_D A [(m0, .inr (8, [.ref m1, .ref m2, .int (nI (min (sm + 1) 6)), .ref m3, .int (nI ln), .int 0, .ref m4, .int lf, .int kp, .ref m5, .int (nI sp), .ref m6, .int (nI tm)])), (m1, .inl (cI, 43, .inl (zArr (z.1, z.2.1, z.2.2.1, z.2.2.2.1, z.2.2.2.2.1, z.2.2.2.2.2.1 - 1, z.2.2.2.2.2.2.1, upd g k (g (k + 1)), z.2.2.2.2.2.2.2.2.1, z.2.2.2.2.2.2.2.2.2.1, z.2.2.2.2.2.2.2.2.2.2)))), (m2, .inl (cI, 258, .inl (sArr (svS T sm z))))] := hD
          refine lv_iinc (v := nI (k + 1)) (lv' := [(3, .int (nI (k + 1))), (2, .int (z.2.2.2.2.2.2.2.1 i)), (0, .ref m0), (1, .int (nI i))]) hx hb dX8_removeWeight_92 hl (k := 0) rfl (by exact k_inc k) (by decide) rfl (fun ls hl => ?_)
          refine lv_goto (tgt := 62) hx hb dX8_removeWeight_95 (by decide) ?_
          exact ih62 (k + 1) (upd g k (g (k + 1))) (by first | assumption | omega) (by first | assumption | omega) (fun j => by simp only [upd, hg]; (repeat' split) <;> first | rfl | omega | exact congrArg _ (by omega) | (congr 1; omega)) (by omega) _ _ (hP.sub [0, 1, 2] rfl) (hD.sub [0, 1, 2] (by decide) rfl) hS _ (lv_sub hl [0, 1, 2, 3] rfl)
    exact J62 (z.2.2.2.2.2.1 - 1 - i + 1) i z.2.2.2.2.2.2.2.1 (by first | assumption | omega) (by first | assumption | omega) (fun j => by rw [if_neg (by omega)]) (Nat.lt_succ_self _) _ _ (hP.sub [0, 1, 2] rfl) (hD.sub [0, 1, 2] (by decide) rfl) hS _ (lv_sub hl [0, 1, 2, 3] rfl)
  · have c_20 : z.2.2.2.2.2.1 = 1 := (nI_eq (a := z.2.2.2.2.2.1) (b := 1) (by omega) (by omega)).mp c_20
    exact absurd c_20 (by omega)

theorem inkX8_weight_ok_8 : ∀ w ∈ wsX80, w ∈ wsX8_weight := fun _ h => List.mem_cons_of_mem _ (List.mem_append_right _ h)
abbrev rmkX8_weight_ok : Room := { frames := 2, cells := 0, slots := 0, locals := 43 }
set_option maxHeartbeats 4000000 in
set_option maxRecDepth 100000 in
theorem kX8_weight_ok (l : Launch) (D : va_G) (sz : Nat) (cI : ClassId) (cC : ClassId) (cJ : ClassId) (cZ : ClassId) (cQ : ClassId) (m0 : Nat) (m1 : Nat) (m2 : Nat) (m3 : Nat) (m4 : Nat) (m5 : Nat) (m6 : Nat) (sm : Nat) (ln : Nat) (sp : Nat) (tm : Nat) (th : Int32) (lf : Int32) (kp : Int32) (z : StV) (i : Nat) (hwc : z.2.2.2.2.2.1 ≤ 12) (hi : i < z.2.2.2.2.2.1) : Met l yX8_weight wsX8_weight rmkX8_weight_ok (va_Pc [.ref m0, .int (nI i)] (kPre D sz [(m0, .inr (8, [.ref m1, .ref m2, .int (nI sm), .ref m3, .int (nI ln), .int th, .ref m4, .int lf, .int kp, .ref m5, .int (nI sp), .ref m6, .int (nI tm)])), (m1, .inl (cI, 43, .inl (zArr z)))] (kT cI cC cJ cZ cQ))) (kQi D (z.2.2.2.2.2.2.2.1 i) [(m0, .inr (8, [.ref m1, .ref m2, .int (nI sm), .ref m3, .int (nI ln), .int 0, .ref m4, .int lf, .int kp, .ref m5, .int (nI sp), .ref m6, .int (nI tm)])), (m1, .inl (cI, 43, .inl (zArr z)))] (va_A [(m0, .inr (8, [.ref m1, .ref m2, .int (nI sm), .ref m3, .int (nI ln), .int th, .ref m4, .int lf, .int kp, .ref m5, .int (nI sp), .ref m6, .int (nI tm)])), (m1, .inl (cI, 43, .inl (zArr z)))] sz)) 0 0 (va_A [(m0, .inr (8, [.ref m1, .ref m2, .int (nI sm), .ref m3, .int (nI ln), .int th, .ref m4, .int lf, .int kp, .ref m5, .int (nI sp), .ref m6, .int (nI tm)])), (m1, .inl (cI, 43, .inl (zArr z)))] sz) := by
  refine k_met (Qf := kQi D (z.2.2.2.2.2.2.2.1 i) [(m0, .inr (8, [.ref m1, .ref m2, .int (nI sm), .ref m3, .int (nI ln), .int 0, .ref m4, .int lf, .int kp, .ref m5, .int (nI sp), .ref m6, .int (nI tm)])), (m1, .inl (cI, 43, .inl (zArr z)))]) (cc := cX8_weight) (maxL := 2) (ret := (some .int)) (own := RX8) (by decide) rfl (Nat.le_of_ble_eq_true rfl) rfl ?_
  intro p e s m args below meth c ls A H locs hx hb hr hts hown hlocks hml hin hsz hP hK hD hA hS hN hl
  have hl : lv_has ls 2 [(0, .ref m0), (1, .int (nI i))] := hl
  refine lv_aload_n hx hb dX8_weight_0 rfl (lv_at hl 0 rfl) ?_
  refine lv_aload_n hx hb dX8_weight_1 rfl (lv_at hl 0 rfl) ?_
  refine lv_iload_n hx hb dX8_weight_2 rfl (lv_at hl 1 rfl) ?_
  refine kv_i (As := [.int (nI i)]) (rest := [.ref m0]) (wr := []) ⟨hx, hb, hml, hown, hts⟩ (kX8_isWeight l D H.size cI cC cJ cZ cQ m0 m1 m2 m3 m4 m5 m6 sm ln sp tm th lf kp z (nI i)) (cwV 1 hts gX8_weight_X8_isWeight rfl rfl rfl (by decide +kernel) ⟨Nat.le_of_ble_eq_true rfl, Nat.le_of_ble_eq_true rfl⟩) hP hD hK hS hA hN [0, 1] [] rfl rfl (by decide) (by decide) (by decide) 0 8 rfl rfl rfl rfl hl.1 rfl (Nat.le_of_ble_eq_true rfl) dX8_weight_3 ⟨Nat.zero_le _, Nat.zero_le _⟩ (fun H locs hP hD hS => ?_)
  have hP : va_P D vwCl [(m0, .inr (8, [.ref m1, .ref m2, .int (nI sm), .ref m3, .int (nI ln), .int th, .ref m4, .int lf, .int kp, .ref m5, .int (nI sp), .ref m6, .int (nI tm)])), (m1, .inl (cI, 43, .inl (zArr z)))] H := hP
  have hD : va_D A [(m0, .inr (8, [.ref m1, .ref m2, .int (nI sm), .ref m3, .int (nI ln), .int th, .ref m4, .int lf, .int kp, .ref m5, .int (nI sp), .ref m6, .int (nI tm)])), (m1, .inl (cI, 43, .inl (zArr z)))] := hD
  refine k_topi (y := 1) (inM_w (by omega) (by omega)) ?_
  refine lv_if_eq (tgt := 13) hx hb dX8_weight_6 (by decide) (fun h => absurd h (by decide)) (fun _ => ?_)
  refine lv_iconst (v := 0) hx hb dX8_weight_9 (by decide) ?_
  refine lv_goto (tgt := 14) hx hb dX8_weight_10 (by decide) ?_
  refine kv_i (As := [.int 0]) (rest := []) (wr := [(m1, .inl (cI, 43, .inl (zArr z)))]) ⟨hx, hb, hml, hown, hts⟩ (kX8_refused l D H.size cI cC cJ cZ cQ m0 m1 m2 m3 m4 m5 m6 sm ln sp tm th lf kp 0) (cwV 1 hts gX8_weight_X8_refused rfl rfl rfl (by decide +kernel) ⟨Nat.le_of_ble_eq_true rfl, Nat.le_of_ble_eq_true rfl⟩) hP hD hK hS hA hN [0] [1] rfl rfl (by decide) (by decide) (by decide) 0 8 rfl rfl rfl rfl hl.1 rfl (Nat.le_of_ble_eq_true rfl) dX8_weight_14 ⟨Nat.zero_le _, Nat.zero_le _⟩ (fun H locs hP hD hS => ?_)
  have hP : va_P D vwCl [(m1, .inl (cI, 43, .inl (zArr z))), (m0, .inr (8, [.ref m1, .ref m2, .int (nI sm), .ref m3, .int (nI ln), .int 0, .ref m4, .int lf, .int kp, .ref m5, .int (nI sp), .ref m6, .int (nI tm)]))] H := hP
  have hD : va_D A [(m1, .inl (cI, 43, .inl (zArr z))), (m0, .inr (8, [.ref m1, .ref m2, .int (nI sm), .ref m3, .int (nI ln), .int 0, .ref m4, .int lf, .int kp, .ref m5, .int (nI sp), .ref m6, .int (nI tm)]))] := hD
  refine k_topi (y := 0) rfl ?_
  refine lv_if_eq (tgt := 24) hx hb dX8_weight_17 (by decide) (fun _ => ?_) (fun h => absurd h (by decide))
  refine lv_aload_n hx hb dX8_weight_24 rfl (lv_at hl 0 rfl) ?_
  refine va_get (D := D) (ci := 8) (v := .ref m1) (C := RX8) (T := TX8) (N := 13) hx hb hts inkX8_weight_ok_8 hown hK hP 1 rfl rfl 0 (by decide) (hts (.fieldLink RX8 7 "WeighingConverterModel" "z" "[I") (List.mem_of_getElem? (i := 1) rfl)) (fun _ h9 => h9) rfl dX8_weight_25 ?_
  refine lv_bipush (v := 7) hx hb dX8_weight_28 (by decide) ?_
  refine lv_iload_n hx hb dX8_weight_30 rfl (lv_at hl 1 rfl) ?_
  refine lv_iadd hx hb dX8_weight_31 ?_
  refine k_topi (y := nI (7 + i)) (nI_add 7 i) ?_
  refine k_iald (k := 7 + i) hx hb hK hP 0 0 rfl rfl (by omega) (by decide) dX8_weight_32 ?_
  refine k_topi (y := z.2.2.2.2.2.2.2.1 i) (zArr_w (by omega)) ?_
  have hP9 := hP.sub (ws' := [(m0, .inr (8, [.ref m1, .ref m2, .int (nI sm), .ref m3, .int (nI ln), .int 0, .ref m4, .int lf, .int kp, .ref m5, .int (nI sp), .ref m6, .int (nI tm)])), (m1, .inl (cI, 43, .inl (zArr z)))]) [1, 0] rfl
  have hD9 := hD.sub (ws' := [(m0, .inr (8, [.ref m1, .ref m2, .int (nI sm), .ref m3, .int (nI ln), .int 0, .ref m4, .int lf, .int kp, .ref m5, .int (nI sp), .ref m6, .int (nI tm)])), (m1, .inl (cI, 43, .inl (zArr z)))]) [1, 0] (by decide) rfl
  exact kr_i (v := z.2.2.2.2.2.2.2.1 i) hx hb hr hlocks hP9 hD9 hS rfl dX8_weight_33

theorem inkX8_code_ok_8 : ∀ w ∈ wsX80, w ∈ wsX8_code := fun _ h => List.mem_cons_of_mem _ (List.mem_append_right _ h)
abbrev rmkX8_code_ok : Room := { frames := 2, cells := 0, slots := 0, locals := 43 }
set_option maxHeartbeats 4000000 in
set_option maxRecDepth 100000 in
theorem kX8_code_ok (l : Launch) (D : va_G) (sz : Nat) (cI : ClassId) (cC : ClassId) (cJ : ClassId) (cZ : ClassId) (cQ : ClassId) (m0 : Nat) (m1 : Nat) (m2 : Nat) (m3 : Nat) (m4 : Nat) (m5 : Nat) (m6 : Nat) (sm : Nat) (ln : Nat) (sp : Nat) (tm : Nat) (th : Int32) (lf : Int32) (kp : Int32) (z : StV) (i : Nat) (hlc : z.2.2.2.2.2.2.1 ≤ 8) (hi : i < z.2.2.2.2.2.2.1) : Met l yX8_code wsX8_code rmkX8_code_ok (va_Pc [.ref m0, .int (nI i)] (kPre D sz [(m0, .inr (8, [.ref m1, .ref m2, .int (nI sm), .ref m3, .int (nI ln), .int th, .ref m4, .int lf, .int kp, .ref m5, .int (nI sp), .ref m6, .int (nI tm)])), (m1, .inl (cI, 43, .inl (zArr z)))] (kT cI cC cJ cZ cQ))) (kQi D (z.2.2.2.2.2.2.2.2.2.2 i) [(m0, .inr (8, [.ref m1, .ref m2, .int (nI sm), .ref m3, .int (nI ln), .int 0, .ref m4, .int lf, .int kp, .ref m5, .int (nI sp), .ref m6, .int (nI tm)])), (m1, .inl (cI, 43, .inl (zArr z)))] (va_A [(m0, .inr (8, [.ref m1, .ref m2, .int (nI sm), .ref m3, .int (nI ln), .int th, .ref m4, .int lf, .int kp, .ref m5, .int (nI sp), .ref m6, .int (nI tm)])), (m1, .inl (cI, 43, .inl (zArr z)))] sz)) 0 0 (va_A [(m0, .inr (8, [.ref m1, .ref m2, .int (nI sm), .ref m3, .int (nI ln), .int th, .ref m4, .int lf, .int kp, .ref m5, .int (nI sp), .ref m6, .int (nI tm)])), (m1, .inl (cI, 43, .inl (zArr z)))] sz) := by
  refine k_met (Qf := kQi D (z.2.2.2.2.2.2.2.2.2.2 i) [(m0, .inr (8, [.ref m1, .ref m2, .int (nI sm), .ref m3, .int (nI ln), .int 0, .ref m4, .int lf, .int kp, .ref m5, .int (nI sp), .ref m6, .int (nI tm)])), (m1, .inl (cI, 43, .inl (zArr z)))]) (cc := cX8_code) (maxL := 2) (ret := (some .int)) (own := RX8) (by decide) rfl (Nat.le_of_ble_eq_true rfl) rfl ?_
  intro p e s m args below meth c ls A H locs hx hb hr hts hown hlocks hml hin hsz hP hK hD hA hS hN hl
  have hl : lv_has ls 2 [(0, .ref m0), (1, .int (nI i))] := hl
  refine lv_aload_n hx hb dX8_code_0 rfl (lv_at hl 0 rfl) ?_
  refine lv_aload_n hx hb dX8_code_1 rfl (lv_at hl 0 rfl) ?_
  refine lv_iload_n hx hb dX8_code_2 rfl (lv_at hl 1 rfl) ?_
  refine kv_i (As := [.int (nI i)]) (rest := [.ref m0]) (wr := []) ⟨hx, hb, hml, hown, hts⟩ (kX8_isLogged l D H.size cI cC cJ cZ cQ m0 m1 m2 m3 m4 m5 m6 sm ln sp tm th lf kp z (nI i)) (cwV 1 hts gX8_code_X8_isLogged rfl rfl rfl (by decide +kernel) ⟨Nat.le_of_ble_eq_true rfl, Nat.le_of_ble_eq_true rfl⟩) hP hD hK hS hA hN [0, 1] [] rfl rfl (by decide) (by decide) (by decide) 0 8 rfl rfl rfl rfl hl.1 rfl (Nat.le_of_ble_eq_true rfl) dX8_code_3 ⟨Nat.zero_le _, Nat.zero_le _⟩ (fun H locs hP hD hS => ?_)
  have hP : va_P D vwCl [(m0, .inr (8, [.ref m1, .ref m2, .int (nI sm), .ref m3, .int (nI ln), .int th, .ref m4, .int lf, .int kp, .ref m5, .int (nI sp), .ref m6, .int (nI tm)])), (m1, .inl (cI, 43, .inl (zArr z)))] H := hP
  have hD : va_D A [(m0, .inr (8, [.ref m1, .ref m2, .int (nI sm), .ref m3, .int (nI ln), .int th, .ref m4, .int lf, .int kp, .ref m5, .int (nI sp), .ref m6, .int (nI tm)])), (m1, .inl (cI, 43, .inl (zArr z)))] := hD
  refine k_topi (y := 1) (inM_w (by omega) (by omega)) ?_
  refine lv_if_eq (tgt := 13) hx hb dX8_code_6 (by decide) (fun h => absurd h (by decide)) (fun _ => ?_)
  refine lv_iconst (v := 0) hx hb dX8_code_9 (by decide) ?_
  refine lv_goto (tgt := 14) hx hb dX8_code_10 (by decide) ?_
  refine kv_i (As := [.int 0]) (rest := []) (wr := [(m1, .inl (cI, 43, .inl (zArr z)))]) ⟨hx, hb, hml, hown, hts⟩ (kX8_refused l D H.size cI cC cJ cZ cQ m0 m1 m2 m3 m4 m5 m6 sm ln sp tm th lf kp 0) (cwV 1 hts gX8_code_X8_refused rfl rfl rfl (by decide +kernel) ⟨Nat.le_of_ble_eq_true rfl, Nat.le_of_ble_eq_true rfl⟩) hP hD hK hS hA hN [0] [1] rfl rfl (by decide) (by decide) (by decide) 0 8 rfl rfl rfl rfl hl.1 rfl (Nat.le_of_ble_eq_true rfl) dX8_code_14 ⟨Nat.zero_le _, Nat.zero_le _⟩ (fun H locs hP hD hS => ?_)
  have hP : va_P D vwCl [(m1, .inl (cI, 43, .inl (zArr z))), (m0, .inr (8, [.ref m1, .ref m2, .int (nI sm), .ref m3, .int (nI ln), .int 0, .ref m4, .int lf, .int kp, .ref m5, .int (nI sp), .ref m6, .int (nI tm)]))] H := hP
  have hD : va_D A [(m1, .inl (cI, 43, .inl (zArr z))), (m0, .inr (8, [.ref m1, .ref m2, .int (nI sm), .ref m3, .int (nI ln), .int 0, .ref m4, .int lf, .int kp, .ref m5, .int (nI sp), .ref m6, .int (nI tm)]))] := hD
  refine k_topi (y := 0) rfl ?_
  refine lv_if_eq (tgt := 24) hx hb dX8_code_17 (by decide) (fun _ => ?_) (fun h => absurd h (by decide))
  refine lv_aload_n hx hb dX8_code_24 rfl (lv_at hl 0 rfl) ?_
  refine va_get (D := D) (ci := 8) (v := .ref m1) (C := RX8) (T := TX8) (N := 13) hx hb hts inkX8_code_ok_8 hown hK hP 1 rfl rfl 0 (by decide) (hts (.fieldLink RX8 7 "WeighingConverterModel" "z" "[I") (List.mem_of_getElem? (i := 1) rfl)) (fun _ h9 => h9) rfl dX8_code_25 ?_
  refine lv_bipush (v := 19) hx hb dX8_code_28 (by decide) ?_
  refine lv_iconst (v := 3) hx hb dX8_code_30 (by decide) ?_
  refine lv_iload_n hx hb dX8_code_31 rfl (lv_at hl 1 rfl) ?_
  refine lv_imul hx hb dX8_code_32 ?_
  refine k_topi (y := nI (3 * i)) (pk_mul 3 i) ?_
  refine lv_iadd hx hb dX8_code_33 ?_
  refine k_topi (y := nI (19 + (3 * i))) (nI_add 19 (3 * i)) ?_
  refine lv_iconst (v := 2) hx hb dX8_code_34 (by decide) ?_
  refine lv_iadd hx hb dX8_code_35 ?_
  refine k_topi (y := nI ((19 + (3 * i)) + 2)) (nI_add (19 + (3 * i)) 2) ?_
  refine k_iald (k := (19 + (3 * i)) + 2) hx hb hK hP 0 0 rfl rfl (by omega) (by decide) dX8_code_36 ?_
  refine k_topi (y := z.2.2.2.2.2.2.2.2.2.2 i) (zArr_l2 (by omega)) ?_
  have hP9 := hP.sub (ws' := [(m0, .inr (8, [.ref m1, .ref m2, .int (nI sm), .ref m3, .int (nI ln), .int 0, .ref m4, .int lf, .int kp, .ref m5, .int (nI sp), .ref m6, .int (nI tm)])), (m1, .inl (cI, 43, .inl (zArr z)))]) [1, 0] rfl
  have hD9 := hD.sub (ws' := [(m0, .inr (8, [.ref m1, .ref m2, .int (nI sm), .ref m3, .int (nI ln), .int 0, .ref m4, .int lf, .int kp, .ref m5, .int (nI sp), .ref m6, .int (nI tm)])), (m1, .inl (cI, 43, .inl (zArr z)))]) [1, 0] (by decide) rfl
  exact kr_i (v := z.2.2.2.2.2.2.2.2.2.2 i) hx hb hr hlocks hP9 hD9 hS rfl dX8_code_37

theorem inkX8_kept_ok_8 : ∀ w ∈ wsX80, w ∈ wsX8_kept := fun _ h => List.mem_cons_of_mem _ (List.mem_append_right _ h)
abbrev rmkX8_kept_ok : Room := { frames := 2, cells := 0, slots := 0, locals := 43 }
set_option maxHeartbeats 4000000 in
set_option maxRecDepth 100000 in
theorem kX8_kept_ok (l : Launch) (D : va_G) (sz : Nat) (cI : ClassId) (cC : ClassId) (cJ : ClassId) (cZ : ClassId) (cQ : ClassId) (m0 : Nat) (m1 : Nat) (m2 : Nat) (m3 : Nat) (m4 : Nat) (m5 : Nat) (m6 : Nat) (sm : Nat) (ln : Nat) (sp : Nat) (tm : Nat) (th : Int32) (lf : Int32) (kp : Int32) (z : StV) (i : Nat) (hlc : z.2.2.2.2.2.2.1 ≤ 8) (hi : i < z.2.2.2.2.2.2.1) : Met l yX8_kept wsX8_kept rmkX8_kept_ok (va_Pc [.ref m0, .int (nI i)] (kPre D sz [(m0, .inr (8, [.ref m1, .ref m2, .int (nI sm), .ref m3, .int (nI ln), .int th, .ref m4, .int lf, .int kp, .ref m5, .int (nI sp), .ref m6, .int (nI tm)])), (m1, .inl (cI, 43, .inl (zArr z)))] (kT cI cC cJ cZ cQ))) (kQi D (z.2.2.2.2.2.2.2.2.2.1 i) [(m0, .inr (8, [.ref m1, .ref m2, .int (nI sm), .ref m3, .int (nI ln), .int 0, .ref m4, .int lf, .int kp, .ref m5, .int (nI sp), .ref m6, .int (nI tm)])), (m1, .inl (cI, 43, .inl (zArr z)))] (va_A [(m0, .inr (8, [.ref m1, .ref m2, .int (nI sm), .ref m3, .int (nI ln), .int th, .ref m4, .int lf, .int kp, .ref m5, .int (nI sp), .ref m6, .int (nI tm)])), (m1, .inl (cI, 43, .inl (zArr z)))] sz)) 0 0 (va_A [(m0, .inr (8, [.ref m1, .ref m2, .int (nI sm), .ref m3, .int (nI ln), .int th, .ref m4, .int lf, .int kp, .ref m5, .int (nI sp), .ref m6, .int (nI tm)])), (m1, .inl (cI, 43, .inl (zArr z)))] sz) := by
  refine k_met (Qf := kQi D (z.2.2.2.2.2.2.2.2.2.1 i) [(m0, .inr (8, [.ref m1, .ref m2, .int (nI sm), .ref m3, .int (nI ln), .int 0, .ref m4, .int lf, .int kp, .ref m5, .int (nI sp), .ref m6, .int (nI tm)])), (m1, .inl (cI, 43, .inl (zArr z)))]) (cc := cX8_kept) (maxL := 2) (ret := (some .int)) (own := RX8) (by decide) rfl (Nat.le_of_ble_eq_true rfl) rfl ?_
  intro p e s m args below meth c ls A H locs hx hb hr hts hown hlocks hml hin hsz hP hK hD hA hS hN hl
  have hl : lv_has ls 2 [(0, .ref m0), (1, .int (nI i))] := hl
  refine lv_aload_n hx hb dX8_kept_0 rfl (lv_at hl 0 rfl) ?_
  refine lv_aload_n hx hb dX8_kept_1 rfl (lv_at hl 0 rfl) ?_
  refine lv_iload_n hx hb dX8_kept_2 rfl (lv_at hl 1 rfl) ?_
  refine kv_i (As := [.int (nI i)]) (rest := [.ref m0]) (wr := []) ⟨hx, hb, hml, hown, hts⟩ (kX8_isLogged l D H.size cI cC cJ cZ cQ m0 m1 m2 m3 m4 m5 m6 sm ln sp tm th lf kp z (nI i)) (cwV 1 hts gX8_kept_X8_isLogged rfl rfl rfl (by decide +kernel) ⟨Nat.le_of_ble_eq_true rfl, Nat.le_of_ble_eq_true rfl⟩) hP hD hK hS hA hN [0, 1] [] rfl rfl (by decide) (by decide) (by decide) 0 8 rfl rfl rfl rfl hl.1 rfl (Nat.le_of_ble_eq_true rfl) dX8_kept_3 ⟨Nat.zero_le _, Nat.zero_le _⟩ (fun H locs hP hD hS => ?_)
  have hP : va_P D vwCl [(m0, .inr (8, [.ref m1, .ref m2, .int (nI sm), .ref m3, .int (nI ln), .int th, .ref m4, .int lf, .int kp, .ref m5, .int (nI sp), .ref m6, .int (nI tm)])), (m1, .inl (cI, 43, .inl (zArr z)))] H := hP
  have hD : va_D A [(m0, .inr (8, [.ref m1, .ref m2, .int (nI sm), .ref m3, .int (nI ln), .int th, .ref m4, .int lf, .int kp, .ref m5, .int (nI sp), .ref m6, .int (nI tm)])), (m1, .inl (cI, 43, .inl (zArr z)))] := hD
  refine k_topi (y := 1) (inM_w (by omega) (by omega)) ?_
  refine lv_if_eq (tgt := 13) hx hb dX8_kept_6 (by decide) (fun h => absurd h (by decide)) (fun _ => ?_)
  refine lv_iconst (v := 0) hx hb dX8_kept_9 (by decide) ?_
  refine lv_goto (tgt := 14) hx hb dX8_kept_10 (by decide) ?_
  refine kv_i (As := [.int 0]) (rest := []) (wr := [(m1, .inl (cI, 43, .inl (zArr z)))]) ⟨hx, hb, hml, hown, hts⟩ (kX8_refused l D H.size cI cC cJ cZ cQ m0 m1 m2 m3 m4 m5 m6 sm ln sp tm th lf kp 0) (cwV 1 hts gX8_kept_X8_refused rfl rfl rfl (by decide +kernel) ⟨Nat.le_of_ble_eq_true rfl, Nat.le_of_ble_eq_true rfl⟩) hP hD hK hS hA hN [0] [1] rfl rfl (by decide) (by decide) (by decide) 0 8 rfl rfl rfl rfl hl.1 rfl (Nat.le_of_ble_eq_true rfl) dX8_kept_14 ⟨Nat.zero_le _, Nat.zero_le _⟩ (fun H locs hP hD hS => ?_)
  have hP : va_P D vwCl [(m1, .inl (cI, 43, .inl (zArr z))), (m0, .inr (8, [.ref m1, .ref m2, .int (nI sm), .ref m3, .int (nI ln), .int 0, .ref m4, .int lf, .int kp, .ref m5, .int (nI sp), .ref m6, .int (nI tm)]))] H := hP
  have hD : va_D A [(m1, .inl (cI, 43, .inl (zArr z))), (m0, .inr (8, [.ref m1, .ref m2, .int (nI sm), .ref m3, .int (nI ln), .int 0, .ref m4, .int lf, .int kp, .ref m5, .int (nI sp), .ref m6, .int (nI tm)]))] := hD
  refine k_topi (y := 0) rfl ?_
  refine lv_if_eq (tgt := 24) hx hb dX8_kept_17 (by decide) (fun _ => ?_) (fun h => absurd h (by decide))
  refine lv_aload_n hx hb dX8_kept_24 rfl (lv_at hl 0 rfl) ?_
  refine va_get (D := D) (ci := 8) (v := .ref m1) (C := RX8) (T := TX8) (N := 13) hx hb hts inkX8_kept_ok_8 hown hK hP 1 rfl rfl 0 (by decide) (hts (.fieldLink RX8 7 "WeighingConverterModel" "z" "[I") (List.mem_of_getElem? (i := 1) rfl)) (fun _ h9 => h9) rfl dX8_kept_25 ?_
  refine lv_bipush (v := 19) hx hb dX8_kept_28 (by decide) ?_
  refine lv_iconst (v := 3) hx hb dX8_kept_30 (by decide) ?_
  refine lv_iload_n hx hb dX8_kept_31 rfl (lv_at hl 1 rfl) ?_
  refine lv_imul hx hb dX8_kept_32 ?_
  refine k_topi (y := nI (3 * i)) (pk_mul 3 i) ?_
  refine lv_iadd hx hb dX8_kept_33 ?_
  refine k_topi (y := nI (19 + (3 * i))) (nI_add 19 (3 * i)) ?_
  refine lv_iconst (v := 1) hx hb dX8_kept_34 (by decide) ?_
  refine lv_iadd hx hb dX8_kept_35 ?_
  refine k_topi (y := nI ((19 + (3 * i)) + 1)) (nI_add (19 + (3 * i)) 1) ?_
  refine k_iald (k := (19 + (3 * i)) + 1) hx hb hK hP 0 0 rfl rfl (by omega) (by decide) dX8_kept_36 ?_
  refine k_topi (y := z.2.2.2.2.2.2.2.2.2.1 i) (zArr_l1 (by omega)) ?_
  have hP9 := hP.sub (ws' := [(m0, .inr (8, [.ref m1, .ref m2, .int (nI sm), .ref m3, .int (nI ln), .int 0, .ref m4, .int lf, .int kp, .ref m5, .int (nI sp), .ref m6, .int (nI tm)])), (m1, .inl (cI, 43, .inl (zArr z)))]) [1, 0] rfl
  have hD9 := hD.sub (ws' := [(m0, .inr (8, [.ref m1, .ref m2, .int (nI sm), .ref m3, .int (nI ln), .int 0, .ref m4, .int lf, .int kp, .ref m5, .int (nI sp), .ref m6, .int (nI tm)])), (m1, .inl (cI, 43, .inl (zArr z)))]) [1, 0] (by decide) rfl
  exact kr_i (v := z.2.2.2.2.2.2.2.2.2.1 i) hx hb hr hlocks hP9 hD9 hS rfl dX8_kept_37

abbrev rmkX8_error_ok : Room := { frames := 2, cells := 0, slots := 0, locals := 43 }
set_option maxHeartbeats 4000000 in
set_option maxRecDepth 100000 in
theorem kX8_error_ok (l : Launch) (D : va_G) (sz : Nat) (cI : ClassId) (cC : ClassId) (cJ : ClassId) (cZ : ClassId) (cQ : ClassId) (m0 : Nat) (m1 : Nat) (m2 : Nat) (m3 : Nat) (m4 : Nat) (m5 : Nat) (m6 : Nat) (sm : Nat) (ln : Nat) (sp : Nat) (tm : Nat) (th : Int32) (lf : Int32) (kp : Int32) (z : StV) (i : Nat) (hlc : z.2.2.2.2.2.2.1 ≤ 8) (hi : i < z.2.2.2.2.2.2.1) : Met l yX8_error wsX8_error rmkX8_error_ok (va_Pc [.ref m0, .int (nI i)] (kPre D sz [(m0, .inr (8, [.ref m1, .ref m2, .int (nI sm), .ref m3, .int (nI ln), .int th, .ref m4, .int lf, .int kp, .ref m5, .int (nI sp), .ref m6, .int (nI tm)])), (m1, .inl (cI, 43, .inl (zArr z)))] (kT cI cC cJ cZ cQ))) (kQi D (16 * z.2.2.2.2.2.2.2.2.2.2 i - z.2.2.2.2.2.2.2.2.1 i) [(m0, .inr (8, [.ref m1, .ref m2, .int (nI sm), .ref m3, .int (nI ln), .int 0, .ref m4, .int lf, .int kp, .ref m5, .int (nI sp), .ref m6, .int (nI tm)])), (m1, .inl (cI, 43, .inl (zArr z)))] (va_A [(m0, .inr (8, [.ref m1, .ref m2, .int (nI sm), .ref m3, .int (nI ln), .int th, .ref m4, .int lf, .int kp, .ref m5, .int (nI sp), .ref m6, .int (nI tm)])), (m1, .inl (cI, 43, .inl (zArr z)))] sz)) 0 0 (va_A [(m0, .inr (8, [.ref m1, .ref m2, .int (nI sm), .ref m3, .int (nI ln), .int th, .ref m4, .int lf, .int kp, .ref m5, .int (nI sp), .ref m6, .int (nI tm)])), (m1, .inl (cI, 43, .inl (zArr z)))] sz) := by
  refine k_met (Qf := kQi D (16 * z.2.2.2.2.2.2.2.2.2.2 i - z.2.2.2.2.2.2.2.2.1 i) [(m0, .inr (8, [.ref m1, .ref m2, .int (nI sm), .ref m3, .int (nI ln), .int 0, .ref m4, .int lf, .int kp, .ref m5, .int (nI sp), .ref m6, .int (nI tm)])), (m1, .inl (cI, 43, .inl (zArr z)))]) (cc := cX8_error) (maxL := 2) (ret := (some .int)) (own := RX8) (by decide) rfl (Nat.le_of_ble_eq_true rfl) rfl ?_
  intro p e s m args below meth c ls A H locs hx hb hr hts hown hlocks hml hin hsz hP hK hD hA hS hN hl
  have hl : lv_has ls 2 [(0, .ref m0), (1, .int (nI i))] := hl
  refine lv_aload_n hx hb dX8_error_0 rfl (lv_at hl 0 rfl) ?_
  refine lv_aload_n hx hb dX8_error_1 rfl (lv_at hl 0 rfl) ?_
  refine lv_iload_n hx hb dX8_error_2 rfl (lv_at hl 1 rfl) ?_
  refine kv_i (As := [.int (nI i)]) (rest := [.ref m0]) (wr := []) ⟨hx, hb, hml, hown, hts⟩ (kX8_isLogged l D H.size cI cC cJ cZ cQ m0 m1 m2 m3 m4 m5 m6 sm ln sp tm th lf kp z (nI i)) (cwV 1 hts gX8_error_X8_isLogged rfl rfl rfl (by decide +kernel) ⟨Nat.le_of_ble_eq_true rfl, Nat.le_of_ble_eq_true rfl⟩) hP hD hK hS hA hN [0, 1] [] rfl rfl (by decide) (by decide) (by decide) 0 8 rfl rfl rfl rfl hl.1 rfl (Nat.le_of_ble_eq_true rfl) dX8_error_3 ⟨Nat.zero_le _, Nat.zero_le _⟩ (fun H locs hP hD hS => ?_)
  have hP : va_P D vwCl [(m0, .inr (8, [.ref m1, .ref m2, .int (nI sm), .ref m3, .int (nI ln), .int th, .ref m4, .int lf, .int kp, .ref m5, .int (nI sp), .ref m6, .int (nI tm)])), (m1, .inl (cI, 43, .inl (zArr z)))] H := hP
  have hD : va_D A [(m0, .inr (8, [.ref m1, .ref m2, .int (nI sm), .ref m3, .int (nI ln), .int th, .ref m4, .int lf, .int kp, .ref m5, .int (nI sp), .ref m6, .int (nI tm)])), (m1, .inl (cI, 43, .inl (zArr z)))] := hD
  refine k_topi (y := 1) (inM_w (by omega) (by omega)) ?_
  refine lv_if_eq (tgt := 13) hx hb dX8_error_6 (by decide) (fun h => absurd h (by decide)) (fun _ => ?_)
  refine lv_iconst (v := 0) hx hb dX8_error_9 (by decide) ?_
  refine lv_goto (tgt := 14) hx hb dX8_error_10 (by decide) ?_
  refine kv_i (As := [.int 0]) (rest := []) (wr := [(m1, .inl (cI, 43, .inl (zArr z)))]) ⟨hx, hb, hml, hown, hts⟩ (kX8_refused l D H.size cI cC cJ cZ cQ m0 m1 m2 m3 m4 m5 m6 sm ln sp tm th lf kp 0) (cwV 1 hts gX8_error_X8_refused rfl rfl rfl (by decide +kernel) ⟨Nat.le_of_ble_eq_true rfl, Nat.le_of_ble_eq_true rfl⟩) hP hD hK hS hA hN [0] [1] rfl rfl (by decide) (by decide) (by decide) 0 8 rfl rfl rfl rfl hl.1 rfl (Nat.le_of_ble_eq_true rfl) dX8_error_14 ⟨Nat.zero_le _, Nat.zero_le _⟩ (fun H locs hP hD hS => ?_)
  have hP : va_P D vwCl [(m1, .inl (cI, 43, .inl (zArr z))), (m0, .inr (8, [.ref m1, .ref m2, .int (nI sm), .ref m3, .int (nI ln), .int 0, .ref m4, .int lf, .int kp, .ref m5, .int (nI sp), .ref m6, .int (nI tm)]))] H := hP
  have hD : va_D A [(m1, .inl (cI, 43, .inl (zArr z))), (m0, .inr (8, [.ref m1, .ref m2, .int (nI sm), .ref m3, .int (nI ln), .int 0, .ref m4, .int lf, .int kp, .ref m5, .int (nI sp), .ref m6, .int (nI tm)]))] := hD
  refine k_topi (y := 0) rfl ?_
  refine lv_if_eq (tgt := 24) hx hb dX8_error_17 (by decide) (fun _ => ?_) (fun h => absurd h (by decide))
  refine lv_aload_n hx hb dX8_error_24 rfl (lv_at hl 0 rfl) ?_
  refine lv_iload_n hx hb dX8_error_25 rfl (lv_at hl 1 rfl) ?_
  refine kv_i (As := [.int (nI i)]) (rest := []) (wr := []) ⟨hx, hb, hml, hown, hts⟩ (kX8_errorOf l D H.size cI cC cJ cZ cQ m0 m1 m2 m3 m4 m5 m6 sm ln sp tm 0 lf kp z i (by first | assumption | omega)) (cwV 1 hts gX8_error_X8_errorOf rfl rfl rfl (by decide +kernel) ⟨Nat.le_of_ble_eq_true rfl, Nat.le_of_ble_eq_true rfl⟩) hP hD hK hS hA hN [1, 0] [] rfl rfl (by decide) (by decide) (by decide) 1 8 rfl rfl rfl rfl hl.1 rfl (Nat.le_of_ble_eq_true rfl) dX8_error_26 ⟨Nat.zero_le _, Nat.zero_le _⟩ (fun H locs hP hD hS => ?_)
  have hP : va_P D vwCl [(m0, .inr (8, [.ref m1, .ref m2, .int (nI sm), .ref m3, .int (nI ln), .int 0, .ref m4, .int lf, .int kp, .ref m5, .int (nI sp), .ref m6, .int (nI tm)])), (m1, .inl (cI, 43, .inl (zArr z)))] H := hP
  have hD : va_D A [(m0, .inr (8, [.ref m1, .ref m2, .int (nI sm), .ref m3, .int (nI ln), .int 0, .ref m4, .int lf, .int kp, .ref m5, .int (nI sp), .ref m6, .int (nI tm)])), (m1, .inl (cI, 43, .inl (zArr z)))] := hD
  have hP9 := hP.sub (ws' := [(m0, .inr (8, [.ref m1, .ref m2, .int (nI sm), .ref m3, .int (nI ln), .int 0, .ref m4, .int lf, .int kp, .ref m5, .int (nI sp), .ref m6, .int (nI tm)])), (m1, .inl (cI, 43, .inl (zArr z)))]) [0, 1] rfl
  have hD9 := hD.sub (ws' := [(m0, .inr (8, [.ref m1, .ref m2, .int (nI sm), .ref m3, .int (nI ln), .int 0, .ref m4, .int lf, .int kp, .ref m5, .int (nI sp), .ref m6, .int (nI tm)])), (m1, .inl (cI, 43, .inl (zArr z)))]) [0, 1] (by decide) rfl
  exact kr_i (v := 16 * z.2.2.2.2.2.2.2.2.2.2 i - z.2.2.2.2.2.2.2.2.1 i) hx hb hr hlocks hP9 hD9 hS rfl dX8_error_29

abbrev rmkX8_ideal_ok : Room := { frames := 3, cells := 0, slots := 0, locals := 69 }
set_option maxHeartbeats 4000000 in
set_option maxRecDepth 100000 in
theorem kX8_ideal_ok (l : Launch) (D : va_G) (sz : Nat) (cI : ClassId) (cC : ClassId) (cJ : ClassId) (cZ : ClassId) (cQ : ClassId) (m0 : Nat) (m1 : Nat) (m2 : Nat) (m3 : Nat) (m4 : Nat) (m5 : Nat) (m6 : Nat) (sm : Nat) (ln : Nat) (sp : Nat) (tm : Nat) (th : Int32) (lf : Int32) (kp : Int32) (z : StV) (v : Int32) (hwc : z.2.2.2.2.2.1 ≤ 12) (h1 : ¬ v < 0) (h2 : v ≤ 65535) : Met l yX8_ideal wsX8_ideal rmkX8_ideal_ok (va_Pc [.ref m0, .int v] (kPre D sz [(m0, .inr (8, [.ref m1, .ref m2, .int (nI sm), .ref m3, .int (nI ln), .int th, .ref m4, .int lf, .int kp, .ref m5, .int (nI sp), .ref m6, .int (nI tm)])), (m1, .inl (cI, 43, .inl (zArr z)))] (kT cI cC cJ cZ cQ))) (kQi D ((wgS z.2.2.2.2.2.2.2.1 0 0 0 v z.2.2.2.2.2.1).2.2) [(m0, .inr (8, [.ref m1, .ref m2, .int (nI sm), .ref m3, .int (nI ln), .int 0, .ref m4, .int ((wgS z.2.2.2.2.2.2.2.1 0 0 0 v z.2.2.2.2.2.1).1), .int ((wgS z.2.2.2.2.2.2.2.1 0 0 0 v z.2.2.2.2.2.1).2.1), .ref m5, .int (nI sp), .ref m6, .int (nI tm)])), (m1, .inl (cI, 43, .inl (zArr z)))] (va_A [(m0, .inr (8, [.ref m1, .ref m2, .int (nI sm), .ref m3, .int (nI ln), .int th, .ref m4, .int lf, .int kp, .ref m5, .int (nI sp), .ref m6, .int (nI tm)])), (m1, .inl (cI, 43, .inl (zArr z)))] sz)) 0 0 (va_A [(m0, .inr (8, [.ref m1, .ref m2, .int (nI sm), .ref m3, .int (nI ln), .int th, .ref m4, .int lf, .int kp, .ref m5, .int (nI sp), .ref m6, .int (nI tm)])), (m1, .inl (cI, 43, .inl (zArr z)))] sz) := by
  refine k_met (Qf := kQi D ((wgS z.2.2.2.2.2.2.2.1 0 0 0 v z.2.2.2.2.2.1).2.2) [(m0, .inr (8, [.ref m1, .ref m2, .int (nI sm), .ref m3, .int (nI ln), .int 0, .ref m4, .int ((wgS z.2.2.2.2.2.2.2.1 0 0 0 v z.2.2.2.2.2.1).1), .int ((wgS z.2.2.2.2.2.2.2.1 0 0 0 v z.2.2.2.2.2.1).2.1), .ref m5, .int (nI sp), .ref m6, .int (nI tm)])), (m1, .inl (cI, 43, .inl (zArr z)))]) (cc := cX8_ideal) (maxL := 2) (ret := (some .int)) (own := RX8) (by decide) rfl (Nat.le_of_ble_eq_true rfl) rfl ?_
  intro p e s m args below meth c ls A H locs hx hb hr hts hown hlocks hml hin hsz hP hK hD hA hS hN hl
  have hl : lv_has ls 2 [(0, .ref m0), (1, .int v)] := hl
  refine lv_aload_n hx hb dX8_ideal_0 rfl (lv_at hl 0 rfl) ?_
  refine lv_iload_n hx hb dX8_ideal_1 rfl (lv_at hl 1 rfl) ?_
  refine lv_iconst (v := 0) hx hb dX8_ideal_2 (by decide) ?_
  refine lv_ldc hx hb hown (hts (.constant RX8 48 (65535)) (List.mem_of_getElem? (i := 1) rfl)) dX8_ideal_3 ?_
  refine ks_i0 (As := [.int v, .int 0, .int 65535]) (rest := [.ref m0]) ⟨hx, hb, hml, hown, hts⟩ (kX8_in l v 0 65535) (va_cwS 3 hts gX8_ideal_X8_in rfl rfl rfl (by decide +kernel) ⟨Nat.le_of_ble_eq_true rfl, Nat.le_of_ble_eq_true rfl⟩) hP hS rfl hl.1 rfl (Nat.le_of_ble_eq_true rfl) dX8_ideal_5 ⟨Nat.zero_le _, Nat.zero_le _⟩ (fun H locs hP hS => ?_)
  refine k_topi (y := 1) (inM_1 h1 h2) ?_
  refine lv_if_eq (tgt := 15) hx hb dX8_ideal_8 (by decide) (fun h => absurd h (by decide)) (fun _ => ?_)
  refine lv_iconst (v := 0) hx hb dX8_ideal_11 (by decide) ?_
  refine lv_goto (tgt := 16) hx hb dX8_ideal_12 (by decide) ?_
  refine kv_i (As := [.int 0]) (rest := []) (wr := [(m1, .inl (cI, 43, .inl (zArr z)))]) ⟨hx, hb, hml, hown, hts⟩ (kX8_refused l D H.size cI cC cJ cZ cQ m0 m1 m2 m3 m4 m5 m6 sm ln sp tm th lf kp 0) (cwV 1 hts gX8_ideal_X8_refused rfl rfl rfl (by decide +kernel) ⟨Nat.le_of_ble_eq_true rfl, Nat.le_of_ble_eq_true rfl⟩) hP hD hK hS hA hN [0] [1] rfl rfl (by decide) (by decide) (by decide) 0 8 rfl rfl rfl rfl hl.1 rfl (Nat.le_of_ble_eq_true rfl) dX8_ideal_16 ⟨Nat.zero_le _, Nat.zero_le _⟩ (fun H locs hP hD hS => ?_)
  have hP : va_P D vwCl [(m1, .inl (cI, 43, .inl (zArr z))), (m0, .inr (8, [.ref m1, .ref m2, .int (nI sm), .ref m3, .int (nI ln), .int 0, .ref m4, .int lf, .int kp, .ref m5, .int (nI sp), .ref m6, .int (nI tm)]))] H := hP
  have hD : va_D A [(m1, .inl (cI, 43, .inl (zArr z))), (m0, .inr (8, [.ref m1, .ref m2, .int (nI sm), .ref m3, .int (nI ln), .int 0, .ref m4, .int lf, .int kp, .ref m5, .int (nI sp), .ref m6, .int (nI tm)]))] := hD
  refine k_topi (y := 0) rfl ?_
  refine lv_if_eq (tgt := 26) hx hb dX8_ideal_19 (by decide) (fun _ => ?_) (fun h => absurd h (by decide))
  refine lv_aload_n hx hb dX8_ideal_26 rfl (lv_at hl 0 rfl) ?_
  refine lv_iload_n hx hb dX8_ideal_27 rfl (lv_at hl 1 rfl) ?_
  refine kv_i (As := [.int v]) (rest := []) (wr := []) ⟨hx, hb, hml, hown, hts⟩ (kX8_idealOf l D H.size cI cC cJ cZ cQ m0 m1 m2 m3 m4 m5 m6 sm ln sp tm 0 lf kp z v (by first | assumption | omega)) (cwV 1 hts gX8_ideal_X8_idealOf rfl rfl rfl (by decide +kernel) ⟨Nat.le_of_ble_eq_true rfl, Nat.le_of_ble_eq_true rfl⟩) hP hD hK hS hA hN [1, 0] [] rfl rfl (by decide) (by decide) (by decide) 1 8 rfl rfl rfl rfl hl.1 rfl (Nat.le_of_ble_eq_true rfl) dX8_ideal_28 ⟨Nat.zero_le _, Nat.zero_le _⟩ (fun H locs hP hD hS => ?_)
  have hP : va_P D vwCl [(m0, .inr (8, [.ref m1, .ref m2, .int (nI sm), .ref m3, .int (nI ln), .int 0, .ref m4, .int ((wgS z.2.2.2.2.2.2.2.1 0 0 0 v z.2.2.2.2.2.1).1), .int ((wgS z.2.2.2.2.2.2.2.1 0 0 0 v z.2.2.2.2.2.1).2.1), .ref m5, .int (nI sp), .ref m6, .int (nI tm)])), (m1, .inl (cI, 43, .inl (zArr z)))] H := hP
  have hD : va_D A [(m0, .inr (8, [.ref m1, .ref m2, .int (nI sm), .ref m3, .int (nI ln), .int 0, .ref m4, .int ((wgS z.2.2.2.2.2.2.2.1 0 0 0 v z.2.2.2.2.2.1).1), .int ((wgS z.2.2.2.2.2.2.2.1 0 0 0 v z.2.2.2.2.2.1).2.1), .ref m5, .int (nI sp), .ref m6, .int (nI tm)])), (m1, .inl (cI, 43, .inl (zArr z)))] := hD
  have hP9 := hP.sub (ws' := [(m0, .inr (8, [.ref m1, .ref m2, .int (nI sm), .ref m3, .int (nI ln), .int 0, .ref m4, .int ((wgS z.2.2.2.2.2.2.2.1 0 0 0 v z.2.2.2.2.2.1).1), .int ((wgS z.2.2.2.2.2.2.2.1 0 0 0 v z.2.2.2.2.2.1).2.1), .ref m5, .int (nI sp), .ref m6, .int (nI tm)])), (m1, .inl (cI, 43, .inl (zArr z)))]) [0, 1] rfl
  have hD9 := hD.sub (ws' := [(m0, .inr (8, [.ref m1, .ref m2, .int (nI sm), .ref m3, .int (nI ln), .int 0, .ref m4, .int ((wgS z.2.2.2.2.2.2.2.1 0 0 0 v z.2.2.2.2.2.1).1), .int ((wgS z.2.2.2.2.2.2.2.1 0 0 0 v z.2.2.2.2.2.1).2.1), .ref m5, .int (nI sp), .ref m6, .int (nI tm)])), (m1, .inl (cI, 43, .inl (zArr z)))]) [0, 1] (by decide) rfl
  exact kr_i (v := (wgS z.2.2.2.2.2.2.2.1 0 0 0 v z.2.2.2.2.2.1).2.2) hx hb hr hlocks hP9 hD9 hS rfl dX8_ideal_31

abbrev rmkX8_mended_ok : Room := { frames := 3, cells := 0, slots := 0, locals := 71 }
set_option maxHeartbeats 4000000 in
set_option maxRecDepth 100000 in
theorem kX8_mended_ok (l : Launch) (D : va_G) (sz : Nat) (cI : ClassId) (cC : ClassId) (cJ : ClassId) (cZ : ClassId) (cQ : ClassId) (m0 : Nat) (m1 : Nat) (m2 : Nat) (m3 : Nat) (m4 : Nat) (m5 : Nat) (m6 : Nat) (sm : Nat) (ln : Nat) (sp : Nat) (tm : Nat) (th : Int32) (lf : Int32) (kp : Int32) (z : StV) (i : Nat) (hwc : z.2.2.2.2.2.1 ≤ 12) (hi : i < z.2.2.2.2.2.1) : Met l yX8_mended wsX8_mended rmkX8_mended_ok (va_Pc [.ref m0, .int (nI i)] (kPre D sz [(m0, .inr (8, [.ref m1, .ref m2, .int (nI sm), .ref m3, .int (nI ln), .int th, .ref m4, .int lf, .int kp, .ref m5, .int (nI sp), .ref m6, .int (nI tm)])), (m1, .inl (cI, 43, .inl (zArr z)))] (kT cI cC cJ cZ cQ))) (kQix D (nI (mdC z.2.2.2.2.2.2.2.1 z.2.2.2.2.2.1 i 256)) (fun (u9 : Int32 × Int32) => [(m0, .inr (8, [.ref m1, .ref m2, .int (nI sm), .ref m3, .int (nI ln), .int 0, .ref m4, .int u9.1, .int u9.2, .ref m5, .int (nI sp), .ref m6, .int (nI tm)])), (m1, .inl (cI, 43, .inl (zArr z)))]) (va_A [(m0, .inr (8, [.ref m1, .ref m2, .int (nI sm), .ref m3, .int (nI ln), .int th, .ref m4, .int lf, .int kp, .ref m5, .int (nI sp), .ref m6, .int (nI tm)])), (m1, .inl (cI, 43, .inl (zArr z)))] sz)) 0 0 (va_A [(m0, .inr (8, [.ref m1, .ref m2, .int (nI sm), .ref m3, .int (nI ln), .int th, .ref m4, .int lf, .int kp, .ref m5, .int (nI sp), .ref m6, .int (nI tm)])), (m1, .inl (cI, 43, .inl (zArr z)))] sz) := by
  refine k_met (Qf := kQix D (nI (mdC z.2.2.2.2.2.2.2.1 z.2.2.2.2.2.1 i 256)) (fun (u9 : Int32 × Int32) => [(m0, .inr (8, [.ref m1, .ref m2, .int (nI sm), .ref m3, .int (nI ln), .int 0, .ref m4, .int u9.1, .int u9.2, .ref m5, .int (nI sp), .ref m6, .int (nI tm)])), (m1, .inl (cI, 43, .inl (zArr z)))])) (cc := cX8_mended) (maxL := 2) (ret := (some .int)) (own := RX8) (by decide) rfl (Nat.le_of_ble_eq_true rfl) rfl ?_
  intro p e s m args below meth c ls A H locs hx hb hr hts hown hlocks hml hin hsz hP hK hD hA hS hN hl
  have hl : lv_has ls 2 [(0, .ref m0), (1, .int (nI i))] := hl
  refine lv_aload_n hx hb dX8_mended_0 rfl (lv_at hl 0 rfl) ?_
  refine lv_aload_n hx hb dX8_mended_1 rfl (lv_at hl 0 rfl) ?_
  refine lv_iload_n hx hb dX8_mended_2 rfl (lv_at hl 1 rfl) ?_
  refine kv_i (As := [.int (nI i)]) (rest := [.ref m0]) (wr := []) ⟨hx, hb, hml, hown, hts⟩ (kX8_isWeight l D H.size cI cC cJ cZ cQ m0 m1 m2 m3 m4 m5 m6 sm ln sp tm th lf kp z (nI i)) (cwV 1 hts gX8_mended_X8_isWeight rfl rfl rfl (by decide +kernel) ⟨Nat.le_of_ble_eq_true rfl, Nat.le_of_ble_eq_true rfl⟩) hP hD hK hS hA hN [0, 1] [] rfl rfl (by decide) (by decide) (by decide) 0 8 rfl rfl rfl rfl hl.1 rfl (Nat.le_of_ble_eq_true rfl) dX8_mended_3 ⟨Nat.zero_le _, Nat.zero_le _⟩ (fun H locs hP hD hS => ?_)
  have hP : va_P D vwCl [(m0, .inr (8, [.ref m1, .ref m2, .int (nI sm), .ref m3, .int (nI ln), .int th, .ref m4, .int lf, .int kp, .ref m5, .int (nI sp), .ref m6, .int (nI tm)])), (m1, .inl (cI, 43, .inl (zArr z)))] H := hP
  have hD : va_D A [(m0, .inr (8, [.ref m1, .ref m2, .int (nI sm), .ref m3, .int (nI ln), .int th, .ref m4, .int lf, .int kp, .ref m5, .int (nI sp), .ref m6, .int (nI tm)])), (m1, .inl (cI, 43, .inl (zArr z)))] := hD
  refine k_topi (y := 1) (inM_w (by omega) (by omega)) ?_
  refine lv_if_eq (tgt := 13) hx hb dX8_mended_6 (by decide) (fun h => absurd h (by decide)) (fun _ => ?_)
  refine lv_iconst (v := 0) hx hb dX8_mended_9 (by decide) ?_
  refine lv_goto (tgt := 14) hx hb dX8_mended_10 (by decide) ?_
  refine kv_i (As := [.int 0]) (rest := []) (wr := [(m1, .inl (cI, 43, .inl (zArr z)))]) ⟨hx, hb, hml, hown, hts⟩ (kX8_refused l D H.size cI cC cJ cZ cQ m0 m1 m2 m3 m4 m5 m6 sm ln sp tm th lf kp 0) (cwV 1 hts gX8_mended_X8_refused rfl rfl rfl (by decide +kernel) ⟨Nat.le_of_ble_eq_true rfl, Nat.le_of_ble_eq_true rfl⟩) hP hD hK hS hA hN [0] [1] rfl rfl (by decide) (by decide) (by decide) 0 8 rfl rfl rfl rfl hl.1 rfl (Nat.le_of_ble_eq_true rfl) dX8_mended_14 ⟨Nat.zero_le _, Nat.zero_le _⟩ (fun H locs hP hD hS => ?_)
  have hP : va_P D vwCl [(m1, .inl (cI, 43, .inl (zArr z))), (m0, .inr (8, [.ref m1, .ref m2, .int (nI sm), .ref m3, .int (nI ln), .int 0, .ref m4, .int lf, .int kp, .ref m5, .int (nI sp), .ref m6, .int (nI tm)]))] H := hP
  have hD : va_D A [(m1, .inl (cI, 43, .inl (zArr z))), (m0, .inr (8, [.ref m1, .ref m2, .int (nI sm), .ref m3, .int (nI ln), .int 0, .ref m4, .int lf, .int kp, .ref m5, .int (nI sp), .ref m6, .int (nI tm)]))] := hD
  refine k_topi (y := 0) rfl ?_
  refine lv_if_eq (tgt := 24) hx hb dX8_mended_17 (by decide) (fun _ => ?_) (fun h => absurd h (by decide))
  refine lv_aload_n hx hb dX8_mended_24 rfl (lv_at hl 0 rfl) ?_
  refine lv_iload_n hx hb dX8_mended_25 rfl (lv_at hl 1 rfl) ?_
  refine kv_ix (As := [.int (nI i)]) (rest := []) (wr := []) ⟨hx, hb, hml, hown, hts⟩ (kX8_mendedBy l D H.size cI cC cJ cZ cQ m0 m1 m2 m3 m4 m5 m6 sm ln sp tm 0 lf kp z i (by first | assumption | omega)) (cwV 1 hts gX8_mended_X8_mendedBy rfl rfl rfl (by decide +kernel) ⟨Nat.le_of_ble_eq_true rfl, Nat.le_of_ble_eq_true rfl⟩) hP hD hK hS hA hN [1, 0] [] rfl rfl (by decide) (by decide) (by decide) 1 8 rfl rfl rfl rfl hl.1 rfl (Nat.le_of_ble_eq_true rfl) dX8_mended_26 ⟨Nat.zero_le _, Nat.zero_le _⟩ (fun u_1 H locs hP hD hS => ?_)
  have hP : va_P D vwCl [(m0, .inr (8, [.ref m1, .ref m2, .int (nI sm), .ref m3, .int (nI ln), .int 0, .ref m4, .int u_1.1, .int u_1.2, .ref m5, .int (nI sp), .ref m6, .int (nI tm)])), (m1, .inl (cI, 43, .inl (zArr z)))] H := hP
  have hD : va_D A [(m0, .inr (8, [.ref m1, .ref m2, .int (nI sm), .ref m3, .int (nI ln), .int 0, .ref m4, .int u_1.1, .int u_1.2, .ref m5, .int (nI sp), .ref m6, .int (nI tm)])), (m1, .inl (cI, 43, .inl (zArr z)))] := hD
  have hP9 := hP.sub (ws' := [(m0, .inr (8, [.ref m1, .ref m2, .int (nI sm), .ref m3, .int (nI ln), .int 0, .ref m4, .int u_1.1, .int u_1.2, .ref m5, .int (nI sp), .ref m6, .int (nI tm)])), (m1, .inl (cI, 43, .inl (zArr z)))]) [0, 1] rfl
  have hD9 := hD.sub (ws' := [(m0, .inr (8, [.ref m1, .ref m2, .int (nI sm), .ref m3, .int (nI ln), .int 0, .ref m4, .int u_1.1, .int u_1.2, .ref m5, .int (nI sp), .ref m6, .int (nI tm)])), (m1, .inl (cI, 43, .inl (zArr z)))]) [0, 1] (by decide) rfl
  exact kr_ix (v := nI (mdC z.2.2.2.2.2.2.2.1 z.2.2.2.2.2.1 i 256)) (u := (u_1.1, u_1.2)) hx hb hr hlocks hP9 hD9 hS rfl dX8_mended_29

theorem inkX8_undo_ok_8 : ∀ w ∈ wsX80, w ∈ wsX8_undo := fun _ h => List.mem_cons_of_mem _ (List.mem_append_right _ h)
abbrev rmkX8_undo_ok : Room := { frames := 1, cells := 0, slots := 0, locals := 24 }
set_option maxHeartbeats 4000000 in
set_option maxRecDepth 100000 in
theorem kX8_undo_ok (l : Launch) (D : va_G) (sz : Nat) (cI : ClassId) (cC : ClassId) (cJ : ClassId) (cZ : ClassId) (cQ : ClassId) (m0 : Nat) (m1 : Nat) (m2 : Nat) (m3 : Nat) (m4 : Nat) (m5 : Nat) (m6 : Nat) (sm : Nat) (ln : Nat) (sp : Nat) (tm : Nat) (th : Int32) (lf : Int32) (kp : Int32) (z : StV) (T : Nat → StV) (hsm : sm ≤ 6) (hs1 : 1 ≤ sm) : Met l yX8_undo wsX8_undo rmkX8_undo_ok (va_Pc [.ref m0] (kPre D sz [(m0, .inr (8, [.ref m1, .ref m2, .int (nI sm), .ref m3, .int (nI ln), .int th, .ref m4, .int lf, .int kp, .ref m5, .int (nI sp), .ref m6, .int (nI tm)])), (m1, .inl (cI, 43, .inl (zArr z))), (m2, .inl (cI, 258, .inl (sArr T)))] (kT cI cC cJ cZ cQ))) (kQi D (nI (sm - 1)) [(m0, .inr (8, [.ref m1, .ref m2, .int (nI (sm - 1)), .ref m3, .int (nI ln), .int 0, .ref m4, .int lf, .int kp, .ref m5, .int (nI sp), .ref m6, .int (nI tm)])), (m1, .inl (cI, 43, .inl (zArr (T (sm - 1))))), (m2, .inl (cI, 258, .inl (sArr T)))] (va_A [(m0, .inr (8, [.ref m1, .ref m2, .int (nI sm), .ref m3, .int (nI ln), .int th, .ref m4, .int lf, .int kp, .ref m5, .int (nI sp), .ref m6, .int (nI tm)])), (m1, .inl (cI, 43, .inl (zArr z))), (m2, .inl (cI, 258, .inl (sArr T)))] sz)) 0 0 (va_A [(m0, .inr (8, [.ref m1, .ref m2, .int (nI sm), .ref m3, .int (nI ln), .int th, .ref m4, .int lf, .int kp, .ref m5, .int (nI sp), .ref m6, .int (nI tm)])), (m1, .inl (cI, 43, .inl (zArr z))), (m2, .inl (cI, 258, .inl (sArr T)))] sz) := by
  refine k_met (Qf := kQi D (nI (sm - 1)) [(m0, .inr (8, [.ref m1, .ref m2, .int (nI (sm - 1)), .ref m3, .int (nI ln), .int 0, .ref m4, .int lf, .int kp, .ref m5, .int (nI sp), .ref m6, .int (nI tm)])), (m1, .inl (cI, 43, .inl (zArr (T (sm - 1))))), (m2, .inl (cI, 258, .inl (sArr T)))]) (cc := cX8_undo) (maxL := 1) (ret := (some .int)) (own := RX8) (by decide) rfl (Nat.le_of_ble_eq_true rfl) rfl ?_
  intro p e s m args below meth c ls A H locs hx hb hr hts hown hlocks hml hin hsz hP hK hD hA hS hN hl
  have hl : lv_has ls 1 [(0, .ref m0)] := hl
  refine lv_aload_n hx hb dX8_undo_0 rfl (lv_at hl 0 rfl) ?_
  refine lv_aload_n hx hb dX8_undo_1 rfl (lv_at hl 0 rfl) ?_
  refine va_get (D := D) (ci := 8) (v := .int (nI sm)) (C := RX8) (T := TX8) (N := 13) hx hb hts inkX8_undo_ok_8 hown hK hP 0 rfl rfl 2 (by decide) (hts (.fieldLink RX8 37 "WeighingConverterModel" "savedMany" "I") (List.mem_of_getElem? (i := 1) rfl)) (fun _ h9 => h9) rfl dX8_undo_2 ?_
  refine lv_if_ne (tgt := 12) hx hb dX8_undo_5 (by decide) (fun c_5 => ?_) (fun c_5 => ?_)
  · have c_5 : ¬ sm = 0 := fun h => c_5 ((nI_eq (a := sm) (b := 0) (by omega) (by omega)).mpr h)
    refine lv_iconst (v := 0) hx hb dX8_undo_12 (by decide) ?_
    refine kv_i (As := [.int 0]) (rest := []) (wr := [(m1, .inl (cI, 43, .inl (zArr z))), (m2, .inl (cI, 258, .inl (sArr T)))]) ⟨hx, hb, hml, hown, hts⟩ (kX8_refused l D H.size cI cC cJ cZ cQ m0 m1 m2 m3 m4 m5 m6 sm ln sp tm th lf kp 0) (cwV 1 hts gX8_undo_X8_refused rfl rfl rfl (by decide +kernel) ⟨Nat.le_of_ble_eq_true rfl, Nat.le_of_ble_eq_true rfl⟩) hP hD hK hS hA hN [0] [1, 2] rfl rfl (by decide) (by decide) (by decide) 0 8 rfl rfl rfl rfl hl.1 rfl (Nat.le_of_ble_eq_true rfl) dX8_undo_13 ⟨Nat.zero_le _, Nat.zero_le _⟩ (fun H locs hP hD hS => ?_)
    have hP : va_P D vwCl [(m1, .inl (cI, 43, .inl (zArr z))), (m2, .inl (cI, 258, .inl (sArr T))), (m0, .inr (8, [.ref m1, .ref m2, .int (nI sm), .ref m3, .int (nI ln), .int 0, .ref m4, .int lf, .int kp, .ref m5, .int (nI sp), .ref m6, .int (nI tm)]))] H := hP
    have hD : va_D A [(m1, .inl (cI, 43, .inl (zArr z))), (m2, .inl (cI, 258, .inl (sArr T))), (m0, .inr (8, [.ref m1, .ref m2, .int (nI sm), .ref m3, .int (nI ln), .int 0, .ref m4, .int lf, .int kp, .ref m5, .int (nI sp), .ref m6, .int (nI tm)]))] := hD
    refine k_topi (y := 0) rfl ?_
    refine lv_if_eq (tgt := 21) hx hb dX8_undo_16 (by decide) (fun _ => ?_) (fun h => absurd h (by decide))
    refine lv_aload_n hx hb dX8_undo_21 rfl (lv_at hl 0 rfl) ?_
    refine lv_dup hx hb dX8_undo_22 rfl ?_
    refine va_get (D := D) (ci := 8) (v := .int (nI sm)) (C := RX8) (T := TX8) (N := 13) hx hb hts inkX8_undo_ok_8 hown hK hP 2 rfl rfl 2 (by decide) (hts (.fieldLink RX8 37 "WeighingConverterModel" "savedMany" "I") (List.mem_of_getElem? (i := 1) rfl)) (fun _ h9 => h9) rfl dX8_undo_23 ?_
    refine lv_iconst (v := 1) hx hb dX8_undo_26 (by decide) ?_
    refine lv_isub hx hb dX8_undo_27 ?_
    refine k_topi (y := nI (sm - 1)) (pk_sub (a := sm) (b := 1) (by omega)) ?_
    refine va_put (D := D) (ci := 8) (v := .int (nI (sm - 1))) (ty := .int) (C := RX8) (T := TX8) (N := 13) hx hb hts inkX8_undo_ok_8 tyX8 tyX8_ok nmX8 hown hK hP hD hS 2 rfl rfl 2 (by decide) (hts (.fieldLink RX8 37 "WeighingConverterModel" "savedMany" "I") (List.mem_of_getElem? (i := 1) rfl)) (fun _ h9 => h9) rfl (by decide +kernel) rfl rfl (Nat.le_of_ble_eq_true rfl) dX8_undo_28 (fun H locs hP hD hS => ?_)
    have hP : va_P D vwCl [(m1, .inl (cI, 43, .inl (zArr z))), (m2, .inl (cI, 258, .inl (sArr T))), (m0, .inr (8, [.ref m1, .ref m2, .int (nI (sm - 1)), .ref m3, .int (nI ln), .int 0, .ref m4, .int lf, .int kp, .ref m5, .int (nI sp), .ref m6, .int (nI tm)]))] H := hP
    have hD : va_D A [(m1, .inl (cI, 43, .inl (zArr z))), (m2, .inl (cI, 258, .inl (sArr T))), (m0, .inr (8, [.ref m1, .ref m2, .int (nI (sm - 1)), .ref m3, .int (nI ln), .int 0, .ref m4, .int lf, .int kp, .ref m5, .int (nI sp), .ref m6, .int (nI tm)]))] := hD
    refine lv_aload_n hx hb dX8_undo_31 rfl (lv_at hl 0 rfl) ?_
    refine va_get (D := D) (ci := 8) (v := .ref m2) (C := RX8) (T := TX8) (N := 13) hx hb hts inkX8_undo_ok_8 hown hK hP 2 rfl rfl 1 (by decide) (hts (.fieldLink RX8 13 "WeighingConverterModel" "saved" "[I") (List.mem_of_getElem? (i := 2) rfl)) (fun _ h9 => h9) rfl dX8_undo_32 ?_
    refine lv_bipush (v := 43) hx hb dX8_undo_35 (by decide) ?_
    refine lv_aload_n hx hb dX8_undo_37 rfl (lv_at hl 0 rfl) ?_
    refine va_get (D := D) (ci := 8) (v := .int (nI (sm - 1))) (C := RX8) (T := TX8) (N := 13) hx hb hts inkX8_undo_ok_8 hown hK hP 2 rfl rfl 2 (by decide) (hts (.fieldLink RX8 37 "WeighingConverterModel" "savedMany" "I") (List.mem_of_getElem? (i := 1) rfl)) (fun _ h9 => h9) rfl dX8_undo_38 ?_
    refine lv_imul hx hb dX8_undo_41 ?_
    refine k_topi (y := nI (43 * (sm - 1))) (pk_mul 43 (sm - 1)) ?_
    refine lv_aload_n hx hb dX8_undo_42 rfl (lv_at hl 0 rfl) ?_
    refine va_get (D := D) (ci := 8) (v := .ref m1) (C := RX8) (T := TX8) (N := 13) hx hb hts inkX8_undo_ok_8 hown hK hP 2 rfl rfl 0 (by decide) (hts (.fieldLink RX8 7 "WeighingConverterModel" "z" "[I") (List.mem_of_getElem? (i := 3) rfl)) (fun _ h9 => h9) rfl dX8_undo_43 ?_
    refine lv_iconst (v := 0) hx hb dX8_undo_46 (by decide) ?_
    refine ks_v (As := [.ref m2, .int (nI (43 * (sm - 1))), .ref m1, .int 0]) (rest := []) (wr := [(m0, .inr (8, [.ref m1, .ref m2, .int (nI (sm - 1)), .ref m3, .int (nI ln), .int 0, .ref m4, .int lf, .int kp, .ref m5, .int (nI sp), .ref m6, .int (nI tm)]))]) ⟨hx, hb, hml, hown, hts⟩ (kX8_copyState l D H.size cI cC cJ cZ cQ m2 m1 (43 * (sm - 1)) 0 258 43 (sArr T) (zArr z) (by first | assumption | omega) (by first | assumption | omega) (by first | assumption | omega) (by first | assumption | omega)) (va_cwS 4 hts gX8_undo_X8_copyState rfl rfl rfl (by decide +kernel) ⟨Nat.le_of_ble_eq_true rfl, Nat.le_of_ble_eq_true rfl⟩) hP hD hK hS hA hN [1, 0] [2] rfl rfl (by decide) (by decide) (by decide) rfl hl.1 rfl (Nat.le_of_ble_eq_true rfl) dX8_undo_47 ⟨Nat.zero_le _, Nat.zero_le _⟩ (fun H locs hP hD hS => ?_)
    have hP : va_P D vwCl [(m0, .inr (8, [.ref m1, .ref m2, .int (nI (sm - 1)), .ref m3, .int (nI ln), .int 0, .ref m4, .int lf, .int kp, .ref m5, .int (nI sp), .ref m6, .int (nI tm)])), (m2, .inl (cI, 258, .inl (sArr T))), (m1, .inl (cI, 43, .inl (cpS (sArr T) (zArr z) (43 * (sm - 1)) 0)))] H := hP
    have hD : va_D A [(m0, .inr (8, [.ref m1, .ref m2, .int (nI (sm - 1)), .ref m3, .int (nI ln), .int 0, .ref m4, .int lf, .int kp, .ref m5, .int (nI sp), .ref m6, .int (nI tm)])), (m2, .inl (cI, 258, .inl (sArr T))), (m1, .inl (cI, 43, .inl (cpS (sArr T) (zArr z) (43 * (sm - 1)) 0)))] := hD
    have hP := k_arr hP 2 rfl (g := zArr (T (sm - 1))) (fun j hj => und_z (by omega) hj)
    have hD := hD.set (p := 2) (e := .inl (cI, 43, .inl (zArr (T (sm - 1))))) rfl
    have hP : va_P D vwCl [(m0, .inr (8, [.ref m1, .ref m2, .int (nI (sm - 1)), .ref m3, .int (nI ln), .int 0, .ref m4, .int lf, .int kp, .ref m5, .int (nI sp), .ref m6, .int (nI tm)])), (m2, .inl (cI, 258, .inl (sArr T))), (m1, .inl (cI, 43, .inl (zArr (T (sm - 1)))))] H := hP
    have hD : va_D A [(m0, .inr (8, [.ref m1, .ref m2, .int (nI (sm - 1)), .ref m3, .int (nI ln), .int 0, .ref m4, .int lf, .int kp, .ref m5, .int (nI sp), .ref m6, .int (nI tm)])), (m2, .inl (cI, 258, .inl (sArr T))), (m1, .inl (cI, 43, .inl (zArr (T (sm - 1)))))] := hD
    refine lv_aload_n hx hb dX8_undo_50 rfl (lv_at hl 0 rfl) ?_
    refine va_get (D := D) (ci := 8) (v := .int (nI (sm - 1))) (C := RX8) (T := TX8) (N := 13) hx hb hts inkX8_undo_ok_8 hown hK hP 0 rfl rfl 2 (by decide) (hts (.fieldLink RX8 37 "WeighingConverterModel" "savedMany" "I") (List.mem_of_getElem? (i := 1) rfl)) (fun _ h9 => h9) rfl dX8_undo_51 ?_
    have hP9 := hP.sub (ws' := [(m0, .inr (8, [.ref m1, .ref m2, .int (nI (sm - 1)), .ref m3, .int (nI ln), .int 0, .ref m4, .int lf, .int kp, .ref m5, .int (nI sp), .ref m6, .int (nI tm)])), (m1, .inl (cI, 43, .inl (zArr (T (sm - 1))))), (m2, .inl (cI, 258, .inl (sArr T)))]) [0, 2, 1] rfl
    have hD9 := hD.sub (ws' := [(m0, .inr (8, [.ref m1, .ref m2, .int (nI (sm - 1)), .ref m3, .int (nI ln), .int 0, .ref m4, .int lf, .int kp, .ref m5, .int (nI sp), .ref m6, .int (nI tm)])), (m1, .inl (cI, 43, .inl (zArr (T (sm - 1))))), (m2, .inl (cI, 258, .inl (sArr T)))]) [0, 2, 1] (by decide) rfl
    exact kr_i (v := nI (sm - 1)) hx hb hr hlocks hP9 hD9 hS rfl dX8_undo_54
  · have c_5 : sm = 0 := (nI_eq (a := sm) (b := 0) (by omega) (by omega)).mp c_5
    exact absurd c_5 (by omega)

theorem inkX8_append_ok_8 : ∀ w ∈ wsX80, w ∈ wsX8_append := fun _ h => List.mem_cons_of_mem _ (List.mem_append_right _ h)
abbrev rmkX8_append_ok : Room := { frames := 1, cells := 0, slots := 0, locals := 22 }
set_option maxHeartbeats 4000000 in
set_option maxRecDepth 100000 in
theorem kX8_append_ok (l : Launch) (D : va_G) (sz : Nat) (cI : ClassId) (cC : ClassId) (cJ : ClassId) (cZ : ClassId) (cQ : ClassId) (m0 : Nat) (m1 : Nat) (m2 : Nat) (m3 : Nat) (m4 : Nat) (m5 : Nat) (m6 : Nat) (sm : Nat) (ln : Nat) (sp : Nat) (tm : Nat) (th : Int32) (lf : Int32) (kp : Int32) (mx : Nat → Int32) (a : Int32) (hln : ln < 60) (h1 : ¬ a < 33) (h2 : a ≤ 126) : Met l yX8_append wsX8_append rmkX8_append_ok (va_Pc [.ref m0, .int a] (kPre D sz [(m0, .inr (8, [.ref m1, .ref m2, .int (nI sm), .ref m3, .int (nI ln), .int th, .ref m4, .int lf, .int kp, .ref m5, .int (nI sp), .ref m6, .int (nI tm)])), (m3, .inl (cI, 60, .inl mx))] (kT cI cC cJ cZ cQ))) (kQi D (nI (ln + 1)) [(m0, .inr (8, [.ref m1, .ref m2, .int (nI sm), .ref m3, .int (nI (ln + 1)), .int 0, .ref m4, .int lf, .int kp, .ref m5, .int (nI sp), .ref m6, .int (nI tm)])), (m3, .inl (cI, 60, .inl (upd mx ln a)))] (va_A [(m0, .inr (8, [.ref m1, .ref m2, .int (nI sm), .ref m3, .int (nI ln), .int th, .ref m4, .int lf, .int kp, .ref m5, .int (nI sp), .ref m6, .int (nI tm)])), (m3, .inl (cI, 60, .inl mx))] sz)) 0 0 (va_A [(m0, .inr (8, [.ref m1, .ref m2, .int (nI sm), .ref m3, .int (nI ln), .int th, .ref m4, .int lf, .int kp, .ref m5, .int (nI sp), .ref m6, .int (nI tm)])), (m3, .inl (cI, 60, .inl mx))] sz) := by
  refine k_met (Qf := kQi D (nI (ln + 1)) [(m0, .inr (8, [.ref m1, .ref m2, .int (nI sm), .ref m3, .int (nI (ln + 1)), .int 0, .ref m4, .int lf, .int kp, .ref m5, .int (nI sp), .ref m6, .int (nI tm)])), (m3, .inl (cI, 60, .inl (upd mx ln a)))]) (cc := cX8_append) (maxL := 2) (ret := (some .int)) (own := RX8) (by decide) rfl (Nat.le_of_ble_eq_true rfl) rfl ?_
  intro p e s m args below meth c ls A H locs hx hb hr hts hown hlocks hml hin hsz hP hK hD hA hS hN hl
  have hl : lv_has ls 2 [(0, .ref m0), (1, .int a)] := hl
  refine lv_aload_n hx hb dX8_append_0 rfl (lv_at hl 0 rfl) ?_
  refine lv_iload_n hx hb dX8_append_1 rfl (lv_at hl 1 rfl) ?_
  refine lv_bipush (v := 33) hx hb dX8_append_2 (by decide) ?_
  refine lv_bipush (v := 126) hx hb dX8_append_4 (by decide) ?_
  refine ks_i0 (As := [.int a, .int 33, .int 126]) (rest := [.ref m0]) ⟨hx, hb, hml, hown, hts⟩ (kX8_in l a 33 126) (va_cwS 3 hts gX8_append_X8_in rfl rfl rfl (by decide +kernel) ⟨Nat.le_of_ble_eq_true rfl, Nat.le_of_ble_eq_true rfl⟩) hP hS rfl hl.1 rfl (Nat.le_of_ble_eq_true rfl) dX8_append_6 ⟨Nat.zero_le _, Nat.zero_le _⟩ (fun H locs hP hS => ?_)
  refine k_topi (y := 1) (inM_1 h1 h2) ?_
  refine lv_if_ne (tgt := 16) hx hb dX8_append_9 (by decide) (fun _ => ?_) (fun h => absurd h (by decide))
  refine lv_aload_n hx hb dX8_append_16 rfl (lv_at hl 0 rfl) ?_
  refine va_get (D := D) (ci := 8) (v := .int (nI ln)) (C := RX8) (T := TX8) (N := 13) hx hb hts inkX8_append_ok_8 hown hK hP 0 rfl rfl 4 (by decide) (hts (.fieldLink RX8 107 "WeighingConverterModel" "length" "I") (List.mem_of_getElem? (i := 1) rfl)) (fun _ h9 => h9) rfl dX8_append_17 ?_
  refine lv_bipush (v := 60) hx hb dX8_append_20 (by decide) ?_
  refine lv_icmp_ne (tgt := 29) hx hb dX8_append_22 (by decide) (fun c_22 => ?_) (fun c_22 => ?_)
  · have c_22 : ¬ ln = 60 := fun h => c_22 ((nI_eq (a := ln) (b := 60) (by omega) (by omega)).mpr h)
    refine lv_iconst (v := 0) hx hb dX8_append_29 (by decide) ?_
    refine kv_i (As := [.int 0]) (rest := []) (wr := [(m3, .inl (cI, 60, .inl mx))]) ⟨hx, hb, hml, hown, hts⟩ (kX8_refused l D H.size cI cC cJ cZ cQ m0 m1 m2 m3 m4 m5 m6 sm ln sp tm th lf kp 0) (cwV 1 hts gX8_append_X8_refused rfl rfl rfl (by decide +kernel) ⟨Nat.le_of_ble_eq_true rfl, Nat.le_of_ble_eq_true rfl⟩) hP hD hK hS hA hN [0] [1] rfl rfl (by decide) (by decide) (by decide) 0 8 rfl rfl rfl rfl hl.1 rfl (Nat.le_of_ble_eq_true rfl) dX8_append_30 ⟨Nat.zero_le _, Nat.zero_le _⟩ (fun H locs hP hD hS => ?_)
    have hP : va_P D vwCl [(m3, .inl (cI, 60, .inl mx)), (m0, .inr (8, [.ref m1, .ref m2, .int (nI sm), .ref m3, .int (nI ln), .int 0, .ref m4, .int lf, .int kp, .ref m5, .int (nI sp), .ref m6, .int (nI tm)]))] H := hP
    have hD : va_D A [(m3, .inl (cI, 60, .inl mx)), (m0, .inr (8, [.ref m1, .ref m2, .int (nI sm), .ref m3, .int (nI ln), .int 0, .ref m4, .int lf, .int kp, .ref m5, .int (nI sp), .ref m6, .int (nI tm)]))] := hD
    refine k_topi (y := 0) rfl ?_
    refine lv_if_eq (tgt := 38) hx hb dX8_append_33 (by decide) (fun _ => ?_) (fun h => absurd h (by decide))
    refine lv_aload_n hx hb dX8_append_38 rfl (lv_at hl 0 rfl) ?_
    refine va_get (D := D) (ci := 8) (v := .ref m3) (C := RX8) (T := TX8) (N := 13) hx hb hts inkX8_append_ok_8 hown hK hP 1 rfl rfl 3 (by decide) (hts (.fieldLink RX8 16 "WeighingConverterModel" "text" "[I") (List.mem_of_getElem? (i := 2) rfl)) (fun _ h9 => h9) rfl dX8_append_39 ?_
    refine lv_aload_n hx hb dX8_append_42 rfl (lv_at hl 0 rfl) ?_
    refine va_get (D := D) (ci := 8) (v := .int (nI ln)) (C := RX8) (T := TX8) (N := 13) hx hb hts inkX8_append_ok_8 hown hK hP 1 rfl rfl 4 (by decide) (hts (.fieldLink RX8 107 "WeighingConverterModel" "length" "I") (List.mem_of_getElem? (i := 1) rfl)) (fun _ h9 => h9) rfl dX8_append_43 ?_
    refine lv_iload_n hx hb dX8_append_46 rfl (lv_at hl 1 rfl) ?_
    refine k_iast (k := ln) hx hb hK hP hD hS 0 0 rfl rfl (by omega) (by decide) dX8_append_47 (fun H locs hP hD hS => ?_)
    have hP : va_P D vwCl [(m3, .inl (cI, 60, .inl (upd mx ln a))), (m0, .inr (8, [.ref m1, .ref m2, .int (nI sm), .ref m3, .int (nI ln), .int 0, .ref m4, .int lf, .int kp, .ref m5, .int (nI sp), .ref m6, .int (nI tm)]))] H := hP
    have hD : va_D A [(m3, .inl (cI, 60, .inl (upd mx ln a))), (m0, .inr (8, [.ref m1, .ref m2, .int (nI sm), .ref m3, .int (nI ln), .int 0, .ref m4, .int lf, .int kp, .ref m5, .int (nI sp), .ref m6, .int (nI tm)]))] := hD
    refine lv_aload_n hx hb dX8_append_48 rfl (lv_at hl 0 rfl) ?_
    refine lv_dup hx hb dX8_append_49 rfl ?_
    refine va_get (D := D) (ci := 8) (v := .int (nI ln)) (C := RX8) (T := TX8) (N := 13) hx hb hts inkX8_append_ok_8 hown hK hP 1 rfl rfl 4 (by decide) (hts (.fieldLink RX8 107 "WeighingConverterModel" "length" "I") (List.mem_of_getElem? (i := 1) rfl)) (fun _ h9 => h9) rfl dX8_append_50 ?_
    refine lv_iconst (v := 1) hx hb dX8_append_53 (by decide) ?_
    refine lv_iadd hx hb dX8_append_54 ?_
    refine k_topi (y := nI (ln + 1)) (nI_add ln 1) ?_
    refine va_put (D := D) (ci := 8) (v := .int (nI (ln + 1))) (ty := .int) (C := RX8) (T := TX8) (N := 13) hx hb hts inkX8_append_ok_8 tyX8 tyX8_ok nmX8 hown hK hP hD hS 1 rfl rfl 4 (by decide) (hts (.fieldLink RX8 107 "WeighingConverterModel" "length" "I") (List.mem_of_getElem? (i := 1) rfl)) (fun _ h9 => h9) rfl (by decide +kernel) rfl rfl (Nat.le_of_ble_eq_true rfl) dX8_append_55 (fun H locs hP hD hS => ?_)
    have hP : va_P D vwCl [(m3, .inl (cI, 60, .inl (upd mx ln a))), (m0, .inr (8, [.ref m1, .ref m2, .int (nI sm), .ref m3, .int (nI (ln + 1)), .int 0, .ref m4, .int lf, .int kp, .ref m5, .int (nI sp), .ref m6, .int (nI tm)]))] H := hP
    have hD : va_D A [(m3, .inl (cI, 60, .inl (upd mx ln a))), (m0, .inr (8, [.ref m1, .ref m2, .int (nI sm), .ref m3, .int (nI (ln + 1)), .int 0, .ref m4, .int lf, .int kp, .ref m5, .int (nI sp), .ref m6, .int (nI tm)]))] := hD
    refine lv_aload_n hx hb dX8_append_58 rfl (lv_at hl 0 rfl) ?_
    refine va_get (D := D) (ci := 8) (v := .int (nI (ln + 1))) (C := RX8) (T := TX8) (N := 13) hx hb hts inkX8_append_ok_8 hown hK hP 1 rfl rfl 4 (by decide) (hts (.fieldLink RX8 107 "WeighingConverterModel" "length" "I") (List.mem_of_getElem? (i := 1) rfl)) (fun _ h9 => h9) rfl dX8_append_59 ?_
    have hP9 := hP.sub (ws' := [(m0, .inr (8, [.ref m1, .ref m2, .int (nI sm), .ref m3, .int (nI (ln + 1)), .int 0, .ref m4, .int lf, .int kp, .ref m5, .int (nI sp), .ref m6, .int (nI tm)])), (m3, .inl (cI, 60, .inl (upd mx ln a)))]) [1, 0] rfl
    have hD9 := hD.sub (ws' := [(m0, .inr (8, [.ref m1, .ref m2, .int (nI sm), .ref m3, .int (nI (ln + 1)), .int 0, .ref m4, .int lf, .int kp, .ref m5, .int (nI sp), .ref m6, .int (nI tm)])), (m3, .inl (cI, 60, .inl (upd mx ln a)))]) [1, 0] (by decide) rfl
    exact kr_i (v := nI (ln + 1)) hx hb hr hlocks hP9 hD9 hS rfl dX8_append_62
  · have c_22 : ln = 60 := (nI_eq (a := ln) (b := 60) (by omega) (by omega)).mp c_22
    exact absurd hln (by omega)

theorem inX8_clearText_8 : ∀ w ∈ wsX80, w ∈ wsX8_clearText := fun _ h => List.mem_cons_of_mem _ (List.mem_append_right _ h)
abbrev rmkX8_clearText : Room := { frames := 0, cells := 0, slots := 0, locals := 0 }
set_option maxHeartbeats 4000000 in
set_option maxRecDepth 100000 in
theorem kX8_clearText (l : Launch) (D : va_G) (sz : Nat) (cI : ClassId) (cC : ClassId) (cJ : ClassId) (cZ : ClassId) (cQ : ClassId) (m0 : Nat) (m1 : Nat) (m2 : Nat) (m3 : Nat) (m4 : Nat) (m5 : Nat) (m6 : Nat) (sm : Nat) (ln : Nat) (sp : Nat) (tm : Nat) (th : Int32) (lf : Int32) (kp : Int32) : Met l yX8_clearText wsX8_clearText rmkX8_clearText (va_Pc [.ref m0] (kPre D sz [(m0, .inr (8, [.ref m1, .ref m2, .int (nI sm), .ref m3, .int (nI ln), .int th, .ref m4, .int lf, .int kp, .ref m5, .int (nI sp), .ref m6, .int (nI tm)]))] (kT cI cC cJ cZ cQ))) (kQi D (nI ln) [(m0, .inr (8, [.ref m1, .ref m2, .int (nI sm), .ref m3, .int (nI 0), .int 0, .ref m4, .int lf, .int kp, .ref m5, .int (nI sp), .ref m6, .int (nI tm)]))] (va_A [(m0, .inr (8, [.ref m1, .ref m2, .int (nI sm), .ref m3, .int (nI ln), .int th, .ref m4, .int lf, .int kp, .ref m5, .int (nI sp), .ref m6, .int (nI tm)]))] sz)) 0 0 (va_A [(m0, .inr (8, [.ref m1, .ref m2, .int (nI sm), .ref m3, .int (nI ln), .int th, .ref m4, .int lf, .int kp, .ref m5, .int (nI sp), .ref m6, .int (nI tm)]))] sz) := by
  refine k_met (Qf := kQi D (nI ln) [(m0, .inr (8, [.ref m1, .ref m2, .int (nI sm), .ref m3, .int (nI 0), .int 0, .ref m4, .int lf, .int kp, .ref m5, .int (nI sp), .ref m6, .int (nI tm)]))]) (cc := cX8_clearText) (maxL := 2) (ret := (some .int)) (own := RX8) (by decide) rfl (Nat.le_of_ble_eq_true rfl) rfl ?_
  intro p e s m args below meth c ls A H locs hx hb hr hts hown hlocks hml hin hsz hP hK hD hA hS hN hl
  have hl : lv_has ls 2 [(0, .ref m0)] := hl
  refine lv_aload_n hx hb dX8_clearText_0 rfl (lv_at hl 0 rfl) ?_
  refine lv_iconst (v := 0) hx hb dX8_clearText_1 (by decide) ?_
  refine va_put (D := D) (ci := 8) (v := .int 0) (ty := .int) (C := RX8) (T := TX8) (N := 13) hx hb hts inX8_clearText_8 tyX8 tyX8_ok nmX8 hown hK hP hD hS 0 rfl rfl 5 (by decide) (hts (.fieldLink RX8 29 "WeighingConverterModel" "thrown" "I") (List.mem_of_getElem? (i := 1) rfl)) (fun _ h9 => h9) rfl (by decide +kernel) rfl rfl (Nat.le_of_ble_eq_true rfl) dX8_clearText_2 (fun H locs hP hD hS => ?_)
  have hP : va_P D vwCl [(m0, .inr (8, [.ref m1, .ref m2, .int (nI sm), .ref m3, .int (nI ln), .int 0, .ref m4, .int lf, .int kp, .ref m5, .int (nI sp), .ref m6, .int (nI tm)]))] H := hP
  have hD : va_D A [(m0, .inr (8, [.ref m1, .ref m2, .int (nI sm), .ref m3, .int (nI ln), .int 0, .ref m4, .int lf, .int kp, .ref m5, .int (nI sp), .ref m6, .int (nI tm)]))] := hD
  refine lv_aload_n hx hb dX8_clearText_5 rfl (lv_at hl 0 rfl) ?_
  refine va_get (D := D) (ci := 8) (v := .int (nI ln)) (C := RX8) (T := TX8) (N := 13) hx hb hts inX8_clearText_8 hown hK hP 0 rfl rfl 4 (by decide) (hts (.fieldLink RX8 107 "WeighingConverterModel" "length" "I") (List.mem_of_getElem? (i := 2) rfl)) (fun _ h9 => h9) rfl dX8_clearText_6 ?_
  refine lv_istore_n (lv' := [(1, .int (nI ln)), (0, .ref m0)]) hx hb dX8_clearText_9 rfl hl (by decide) rfl (fun ls hl => ?_)
  refine lv_aload_n hx hb dX8_clearText_10 rfl (lv_at hl 1 rfl) ?_
  refine lv_iconst (v := 0) hx hb dX8_clearText_11 (by decide) ?_
  refine va_put (D := D) (ci := 8) (v := .int 0) (ty := .int) (C := RX8) (T := TX8) (N := 13) hx hb hts inX8_clearText_8 tyX8 tyX8_ok nmX8 hown hK hP hD hS 0 rfl rfl 4 (by decide) (hts (.fieldLink RX8 107 "WeighingConverterModel" "length" "I") (List.mem_of_getElem? (i := 2) rfl)) (fun _ h9 => h9) rfl (by decide +kernel) rfl rfl (Nat.le_of_ble_eq_true rfl) dX8_clearText_12 (fun H locs hP hD hS => ?_)
  have hP : va_P D vwCl [(m0, .inr (8, [.ref m1, .ref m2, .int (nI sm), .ref m3, .int 0, .int 0, .ref m4, .int lf, .int kp, .ref m5, .int (nI sp), .ref m6, .int (nI tm)]))] H := hP
  have hD : va_D A [(m0, .inr (8, [.ref m1, .ref m2, .int (nI sm), .ref m3, .int 0, .int 0, .ref m4, .int lf, .int kp, .ref m5, .int (nI sp), .ref m6, .int (nI tm)]))] := hD
  refine lv_iload_n hx hb dX8_clearText_15 rfl (lv_at hl 0 rfl) ?_
  have hP9 := hP.sub (ws' := [(m0, .inr (8, [.ref m1, .ref m2, .int (nI sm), .ref m3, .int (nI 0), .int 0, .ref m4, .int lf, .int kp, .ref m5, .int (nI sp), .ref m6, .int (nI tm)]))]) [0] rfl
  have hD9 := hD.sub (ws' := [(m0, .inr (8, [.ref m1, .ref m2, .int (nI sm), .ref m3, .int (nI 0), .int 0, .ref m4, .int lf, .int kp, .ref m5, .int (nI sp), .ref m6, .int (nI tm)]))]) [0] (by decide) rfl
  exact kr_i (v := nI ln) hx hb hr hlocks hP9 hD9 hS rfl dX8_clearText_16
