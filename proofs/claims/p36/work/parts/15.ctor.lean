/-! constructors; laid by program (wip/p36/gen) -/
theorem inX6_init_6 : ∀ w ∈ wsX60, w ∈ wsX6_init := fun _ h => List.mem_cons_of_mem _ (List.mem_append_right _ h)
abbrev rmkX6_init : Room := { frames := 1, cells := 1, slots := 12, locals := 60 }
set_option maxHeartbeats 4000000 in
set_option maxRecDepth 100000 in
theorem kX6_init (l : Launch) (D : va_G) (sz : Nat) (cI : ClassId) (cC : ClassId) (cJ : ClassId) (cZ : ClassId) (cQ : ClassId) (x : Nat) : Met l yX6_init wsX6_init rmkX6_init (va_Pc [.ref x] (kPreZ D sz [(x, .inr (6, [.null, .int 0]))] (kT cI cC cJ cZ cQ))) (kQc D (fun (u9 : Nat) => [(x, .inr (6, [.ref u9, .int 8])), (u9, .inl (cI, 12, .inl atF))]) (va_A [(x, .inr (6, [.null, .int 0]))] sz)) 1 12 (va_A [(x, .inr (6, [.null, .int 0]))] sz) := by
  refine k_metZ (Qf := kQc D (fun (u9 : Nat) => [(x, .inr (6, [.ref u9, .int 8])), (u9, .inl (cI, 12, .inl atF))])) (cc := cX6_init) (maxL := 1) (ret := none) (own := RX6) (by decide) rfl (Nat.le_of_ble_eq_true rfl) rfl ?_
  intro p e s m args below meth c ls A H locs hx hb hr hts hown hlocks hml hin hsz hP hK hD hA hS hN hZ hO hl
  have hl : lv_has ls 1 [(0, .ref x)] := hl
  obtain ⟨t9, hz1, hz2, hz3, hz4⟩ := id hZ
  refine lv_aload_n hx hb dX6_init_0 rfl (lv_at hl 0 rfl) ?_
  refine W.objInit hx hb hown (hts (.methodLink RX6 3 objectInit) (List.mem_of_getElem? (i := 1) rfl)) (hts (.instanceMethod objectInit) (List.mem_of_getElem? (i := 2) rfl)) (hts _ (List.mem_of_getElem? (i := 3) rfl)) rfl (by rw [hml]; exact hl.1) rfl dX6_init_1 (Nat.le_of_ble_eq_true rfl) (Nat.le_of_ble_eq_true rfl) ?_
  refine W.eq (g2 := F0 m 4 ls []) rfl ?_
  refine lv_aload_n hx hb dX6_init_4 rfl (lv_at hl 0 rfl) ?_
  refine lv_bipush (v := 12) hx hb dX6_init_5 (by decide) ?_
  refine k_newa (atype := .int) (cT := cI) (ty := .int) (N' := 12) (a0 := (12, .inl (fun _ => 0))) hx hb (hts (.arrayClass .int) (List.mem_of_getElem? (i := 4) rfl)) rfl rfl hK 0 rfl hP hD hS hA (fun _ => rfl) (by decide) (by decide) (Nat.le_of_ble_eq_true rfl) (Nat.le_of_ble_eq_true rfl) (Nat.le_of_ble_eq_true rfl) dX6_init_7 (fun q7_1 H hP hD hS => ?_)
  have hP : va_P D vwCl [(x, .inr (6, [.null, .int 0])), (q7_1, .inl (cI, 12, .inl (fun _ => 0)))] H := hP
  have hD : va_D A [(x, .inr (6, [.null, .int 0])), (q7_1, .inl (cI, 12, .inl (fun _ => 0)))] := hD
  refine W.widen (k := 1) (n := 12) (Nat.le_refl _) (Nat.le_refl _) ?_
  refine va_putF (D := D) (ci := 6) (v := .ref q7_1) (ty := (.array .int)) (C := RX6) (T := TX6) (N := 2) hx hb hts inX6_init_6 tyX6 tyX6_ok nmX6 hown hK hP hD hS 0 rfl rfl 0 (by decide) (hts (.fieldLink RX6 9 "WeighingConverter$Weights" "sizes" "[I") (List.mem_of_getElem? (i := 5) rfl)) (fun _ h9 => h9) rfl hin rfl (by decide +kernel) rfl rfl (Nat.le_of_ble_eq_true rfl) dX6_init_9 (fun H locs hP hD hS => ?_)
  have hP : va_P D vwCl [(x, .inr (6, [.ref q7_1, .int 0])), (q7_1, .inl (cI, 12, .inl (fun _ => 0)))] H := hP
  have hD : va_D A [(x, .inr (6, [.ref q7_1, .int 0])), (q7_1, .inl (cI, 12, .inl (fun _ => 0)))] := hD
  refine lv_aload_n hx hb dX6_init_12 rfl (lv_at hl 0 rfl) ?_
  refine va_gets hx hb hz1 hS hown (hts (.fieldLink RX6 15 "WeighingConverter$Weights" "AT_FIRST" "[I") (List.mem_of_getElem? (i := 6) rfl)) (fun _ h => h) dX6_init_13 ?_
  refine k_zlen hx hb hz2 hz4 hS dX6_init_16 ?_
  refine va_put (D := D) (ci := 6) (v := .int 8) (ty := .int) (C := RX6) (T := TX6) (N := 2) hx hb hts inX6_init_6 tyX6 tyX6_ok nmX6 hown hK hP hD hS 0 rfl rfl 1 (by decide) (hts (.fieldLink RX6 18 "WeighingConverter$Weights" "count" "I") (List.mem_of_getElem? (i := 7) rfl)) (fun _ h9 => h9) rfl (by decide +kernel) rfl rfl (Nat.le_of_ble_eq_true rfl) dX6_init_17 (fun H locs hP hD hS => ?_)
  have hP : va_P D vwCl [(x, .inr (6, [.ref q7_1, .int 8])), (q7_1, .inl (cI, 12, .inl (fun _ => 0)))] H := hP
  have hD : va_D A [(x, .inr (6, [.ref q7_1, .int 8])), (q7_1, .inl (cI, 12, .inl (fun _ => 0)))] := hD
  refine va_gets hx hb hz1 hS hown (hts (.fieldLink RX6 15 "WeighingConverter$Weights" "AT_FIRST" "[I") (List.mem_of_getElem? (i := 6) rfl)) (fun _ h => h) dX6_init_20 ?_
  refine lv_iconst (v := 0) hx hb dX6_init_23 (by decide) ?_
  refine lv_aload_n hx hb dX6_init_24 rfl (lv_at hl 0 rfl) ?_
  refine va_get (D := D) (ci := 6) (v := .ref q7_1) (C := RX6) (T := TX6) (N := 2) hx hb hts inX6_init_6 hown hK hP 0 rfl rfl 0 (by decide) (hts (.fieldLink RX6 9 "WeighingConverter$Weights" "sizes" "[I") (List.mem_of_getElem? (i := 5) rfl)) (fun _ h9 => h9) rfl dX6_init_25 ?_
  refine lv_iconst (v := 0) hx hb dX6_init_28 (by decide) ?_
  refine va_gets hx hb hz1 hS hown (hts (.fieldLink RX6 15 "WeighingConverter$Weights" "AT_FIRST" "[I") (List.mem_of_getElem? (i := 6) rfl)) (fun _ h => h) dX6_init_29 ?_
  refine k_zlen hx hb hz2 hz4 hS dX6_init_32 ?_
  refine va_copyx hx hb (hml.trans hl.1.symm) hown (hts (.methodLink RX6 22 arraycopyName) (List.mem_of_getElem? (i := 8) rfl)) (hts (.native arraycopyName) (List.mem_of_getElem? (i := 9) rfl)) (hts (.static arraycopyName) (List.mem_of_getElem? (i := 10) rfl)) (hts (.initialized "java/lang/System") (List.mem_of_getElem? (i := 11) rfl)) hK hP hD hS hz2 hz3 hz4 1 0 rfl rfl (by decide) (by decide) (by decide) (by decide) (by decide) (Nat.le_of_ble_eq_true rfl) (Nat.le_of_ble_eq_true rfl) dX6_init_33 (fun H locs hP hD hS => ?_)
  have hP := k_arr hP 1 rfl (g := atF) (fun j _ => atF_cpy j)
  have hD := hD.set (p := 1) (e := .inl (cI, 12, .inl atF)) rfl
  have hP : va_P D vwCl [(x, .inr (6, [.ref q7_1, .int 8])), (q7_1, .inl (cI, 12, .inl atF))] H := hP
  have hD : va_D A [(x, .inr (6, [.ref q7_1, .int 8])), (q7_1, .inl (cI, 12, .inl atF))] := hD
  have hP9 := hP.sub (ws' := [(x, .inr (6, [.ref q7_1, .int 8])), (q7_1, .inl (cI, 12, .inl atF))]) [0, 1] rfl
  have hD9 := hD.sub (ws' := [(x, .inr (6, [.ref q7_1, .int 8])), (q7_1, .inl (cI, 12, .inl atF))]) [0, 1] (by decide) rfl
  exact kr_c (u := (q7_1)) hx hb hr hlocks hP9 hD9 hS dX6_init_36

theorem inX0_init_0 : ∀ w ∈ wsX00, w ∈ wsX0_init := fun _ h => List.mem_cons_of_mem _ (List.mem_append_right _ h)
abbrev rmkX0_init : Room := { frames := 1, cells := 3, slots := 24, locals := 12 }
set_option maxHeartbeats 4000000 in
set_option maxRecDepth 100000 in
theorem kX0_init (l : Launch) (D : va_G) (sz : Nat) (cI : ClassId) (cC : ClassId) (cJ : ClassId) (cZ : ClassId) (cQ : ClassId) (x : Nat) : Met l yX0_init wsX0_init rmkX0_init (va_Pc [.ref x] (kPreZ D sz [(x, .inr (0, [.null, .null, .null, .int 0]))] (kT cI cC cJ cZ cQ))) (kQc D (fun (u9 : Nat × Nat × Nat) => [(x, .inr (0, [.ref u9.1, .ref u9.2.1, .ref u9.2.2, .int 0])), (u9.1, .inl (cI, 8, .inl (fun _ => 0))), (u9.2.1, .inl (cI, 8, .inl (fun _ => 0))), (u9.2.2, .inl (cI, 8, .inl (fun _ => 0)))]) (va_A [(x, .inr (0, [.null, .null, .null, .int 0]))] sz)) 3 24 (va_A [(x, .inr (0, [.null, .null, .null, .int 0]))] sz) := by
  refine k_metZ (Qf := kQc D (fun (u9 : Nat × Nat × Nat) => [(x, .inr (0, [.ref u9.1, .ref u9.2.1, .ref u9.2.2, .int 0])), (u9.1, .inl (cI, 8, .inl (fun _ => 0))), (u9.2.1, .inl (cI, 8, .inl (fun _ => 0))), (u9.2.2, .inl (cI, 8, .inl (fun _ => 0)))])) (cc := cX0_init) (maxL := 1) (ret := none) (own := RX0) (by decide) rfl (Nat.le_of_ble_eq_true rfl) rfl ?_
  intro p e s m args below meth c ls A H locs hx hb hr hts hown hlocks hml hin hsz hP hK hD hA hS hN hZ hO hl
  have hl : lv_has ls 1 [(0, .ref x)] := hl
  obtain ⟨t9, hz1, hz2, hz3, hz4⟩ := id hZ
  refine lv_aload_n hx hb dX0_init_0 rfl (lv_at hl 0 rfl) ?_
  refine W.objInit hx hb hown (hts (.methodLink RX0 3 objectInit) (List.mem_of_getElem? (i := 1) rfl)) (hts (.instanceMethod objectInit) (List.mem_of_getElem? (i := 2) rfl)) (hts _ (List.mem_of_getElem? (i := 3) rfl)) rfl (by rw [hml]; exact hl.1) rfl dX0_init_1 (Nat.le_of_ble_eq_true rfl) (Nat.le_of_ble_eq_true rfl) ?_
  refine W.eq (g2 := F0 m 4 ls []) rfl ?_
  refine lv_aload_n hx hb dX0_init_4 rfl (lv_at hl 0 rfl) ?_
  refine lv_bipush (v := 8) hx hb dX0_init_5 (by decide) ?_
  refine k_newa (atype := .int) (cT := cI) (ty := .int) (N' := 8) (a0 := (8, .inl (fun _ => 0))) hx hb (hts (.arrayClass .int) (List.mem_of_getElem? (i := 4) rfl)) rfl rfl hK 0 rfl hP hD hS hA (fun _ => rfl) (by decide) (by decide) (Nat.le_of_ble_eq_true rfl) (Nat.le_of_ble_eq_true rfl) (Nat.le_of_ble_eq_true rfl) dX0_init_7 (fun q7_1 H hP hD hS => ?_)
  have hP : va_P D vwCl [(x, .inr (0, [.null, .null, .null, .int 0])), (q7_1, .inl (cI, 8, .inl (fun _ => 0)))] H := hP
  have hD : va_D A [(x, .inr (0, [.null, .null, .null, .int 0])), (q7_1, .inl (cI, 8, .inl (fun _ => 0)))] := hD
  refine W.widen (k := 1) (n := 8) (Nat.le_refl _) (Nat.le_refl _) ?_
  refine va_putF (D := D) (ci := 0) (v := .ref q7_1) (ty := (.array .int)) (C := RX0) (T := TX0) (N := 4) hx hb hts inX0_init_0 tyX0 tyX0_ok nmX0 hown hK hP hD hS 0 rfl rfl 0 (by decide) (hts (.fieldLink RX0 9 "WeighingConverter$Log" "voltages" "[I") (List.mem_of_getElem? (i := 5) rfl)) (fun _ h9 => h9) rfl hin rfl (by decide +kernel) rfl rfl (Nat.le_of_ble_eq_true rfl) dX0_init_9 (fun H locs hP hD hS => ?_)
  have hP : va_P D vwCl [(x, .inr (0, [.ref q7_1, .null, .null, .int 0])), (q7_1, .inl (cI, 8, .inl (fun _ => 0)))] H := hP
  have hD : va_D A [(x, .inr (0, [.ref q7_1, .null, .null, .int 0])), (q7_1, .inl (cI, 8, .inl (fun _ => 0)))] := hD
  refine lv_aload_n hx hb dX0_init_12 rfl (lv_at hl 0 rfl) ?_
  refine lv_bipush (v := 8) hx hb dX0_init_13 (by decide) ?_
  refine k_newa (atype := .int) (cT := cI) (ty := .int) (N' := 8) (a0 := (8, .inl (fun _ => 0))) hx hb (hts (.arrayClass .int) (List.mem_of_getElem? (i := 4) rfl)) rfl rfl hK 0 rfl hP hD hS hA (fun _ => rfl) (by decide) (by decide) (Nat.le_of_ble_eq_true rfl) (Nat.le_of_ble_eq_true rfl) (Nat.le_of_ble_eq_true rfl) dX0_init_15 (fun q15_2 H hP hD hS => ?_)
  have hP : va_P D vwCl [(x, .inr (0, [.ref q7_1, .null, .null, .int 0])), (q7_1, .inl (cI, 8, .inl (fun _ => 0))), (q15_2, .inl (cI, 8, .inl (fun _ => 0)))] H := hP
  have hD : va_D A [(x, .inr (0, [.ref q7_1, .null, .null, .int 0])), (q7_1, .inl (cI, 8, .inl (fun _ => 0))), (q15_2, .inl (cI, 8, .inl (fun _ => 0)))] := hD
  refine W.widen (k := 2) (n := 16) (Nat.le_refl _) (Nat.le_refl _) ?_
  refine va_putF (D := D) (ci := 0) (v := .ref q15_2) (ty := (.array .int)) (C := RX0) (T := TX0) (N := 4) hx hb hts inX0_init_0 tyX0 tyX0_ok nmX0 hown hK hP hD hS 0 rfl rfl 1 (by decide) (hts (.fieldLink RX0 15 "WeighingConverter$Log" "keptMasks" "[I") (List.mem_of_getElem? (i := 6) rfl)) (fun _ h9 => h9) rfl hin rfl (by decide +kernel) rfl rfl (Nat.le_of_ble_eq_true rfl) dX0_init_17 (fun H locs hP hD hS => ?_)
  have hP : va_P D vwCl [(x, .inr (0, [.ref q7_1, .ref q15_2, .null, .int 0])), (q7_1, .inl (cI, 8, .inl (fun _ => 0))), (q15_2, .inl (cI, 8, .inl (fun _ => 0)))] H := hP
  have hD : va_D A [(x, .inr (0, [.ref q7_1, .ref q15_2, .null, .int 0])), (q7_1, .inl (cI, 8, .inl (fun _ => 0))), (q15_2, .inl (cI, 8, .inl (fun _ => 0)))] := hD
  refine lv_aload_n hx hb dX0_init_20 rfl (lv_at hl 0 rfl) ?_
  refine lv_bipush (v := 8) hx hb dX0_init_21 (by decide) ?_
  refine k_newa (atype := .int) (cT := cI) (ty := .int) (N' := 8) (a0 := (8, .inl (fun _ => 0))) hx hb (hts (.arrayClass .int) (List.mem_of_getElem? (i := 4) rfl)) rfl rfl hK 0 rfl hP hD hS hA (fun _ => rfl) (by decide) (by decide) (Nat.le_of_ble_eq_true rfl) (Nat.le_of_ble_eq_true rfl) (Nat.le_of_ble_eq_true rfl) dX0_init_23 (fun q23_3 H hP hD hS => ?_)
  have hP : va_P D vwCl [(x, .inr (0, [.ref q7_1, .ref q15_2, .null, .int 0])), (q7_1, .inl (cI, 8, .inl (fun _ => 0))), (q15_2, .inl (cI, 8, .inl (fun _ => 0))), (q23_3, .inl (cI, 8, .inl (fun _ => 0)))] H := hP
  have hD : va_D A [(x, .inr (0, [.ref q7_1, .ref q15_2, .null, .int 0])), (q7_1, .inl (cI, 8, .inl (fun _ => 0))), (q15_2, .inl (cI, 8, .inl (fun _ => 0))), (q23_3, .inl (cI, 8, .inl (fun _ => 0)))] := hD
  refine W.widen (k := 3) (n := 24) (Nat.le_refl _) (Nat.le_refl _) ?_
  refine va_putF (D := D) (ci := 0) (v := .ref q23_3) (ty := (.array .int)) (C := RX0) (T := TX0) (N := 4) hx hb hts inX0_init_0 tyX0 tyX0_ok nmX0 hown hK hP hD hS 0 rfl rfl 2 (by decide) (hts (.fieldLink RX0 18 "WeighingConverter$Log" "codes" "[I") (List.mem_of_getElem? (i := 7) rfl)) (fun _ h9 => h9) rfl hin rfl (by decide +kernel) rfl rfl (Nat.le_of_ble_eq_true rfl) dX0_init_25 (fun H locs hP hD hS => ?_)
  have hP : va_P D vwCl [(x, .inr (0, [.ref q7_1, .ref q15_2, .ref q23_3, .int 0])), (q7_1, .inl (cI, 8, .inl (fun _ => 0))), (q15_2, .inl (cI, 8, .inl (fun _ => 0))), (q23_3, .inl (cI, 8, .inl (fun _ => 0)))] H := hP
  have hD : va_D A [(x, .inr (0, [.ref q7_1, .ref q15_2, .ref q23_3, .int 0])), (q7_1, .inl (cI, 8, .inl (fun _ => 0))), (q15_2, .inl (cI, 8, .inl (fun _ => 0))), (q23_3, .inl (cI, 8, .inl (fun _ => 0)))] := hD
  refine lv_aload_n hx hb dX0_init_28 rfl (lv_at hl 0 rfl) ?_
  refine lv_iconst (v := 0) hx hb dX0_init_29 (by decide) ?_
  refine va_put (D := D) (ci := 0) (v := .int 0) (ty := .int) (C := RX0) (T := TX0) (N := 4) hx hb hts inX0_init_0 tyX0 tyX0_ok nmX0 hown hK hP hD hS 0 rfl rfl 3 (by decide) (hts (.fieldLink RX0 21 "WeighingConverter$Log" "count" "I") (List.mem_of_getElem? (i := 8) rfl)) (fun _ h9 => h9) rfl (by decide +kernel) rfl rfl (Nat.le_of_ble_eq_true rfl) dX0_init_30 (fun H locs hP hD hS => ?_)
  have hP : va_P D vwCl [(x, .inr (0, [.ref q7_1, .ref q15_2, .ref q23_3, .int 0])), (q7_1, .inl (cI, 8, .inl (fun _ => 0))), (q15_2, .inl (cI, 8, .inl (fun _ => 0))), (q23_3, .inl (cI, 8, .inl (fun _ => 0)))] H := hP
  have hD : va_D A [(x, .inr (0, [.ref q7_1, .ref q15_2, .ref q23_3, .int 0])), (q7_1, .inl (cI, 8, .inl (fun _ => 0))), (q15_2, .inl (cI, 8, .inl (fun _ => 0))), (q23_3, .inl (cI, 8, .inl (fun _ => 0)))] := hD
  have hP9 := hP.sub (ws' := [(x, .inr (0, [.ref q7_1, .ref q15_2, .ref q23_3, .int 0])), (q7_1, .inl (cI, 8, .inl (fun _ => 0))), (q15_2, .inl (cI, 8, .inl (fun _ => 0))), (q23_3, .inl (cI, 8, .inl (fun _ => 0)))]) [0, 1, 2, 3] rfl
  have hD9 := hD.sub (ws' := [(x, .inr (0, [.ref q7_1, .ref q15_2, .ref q23_3, .int 0])), (q7_1, .inl (cI, 8, .inl (fun _ => 0))), (q15_2, .inl (cI, 8, .inl (fun _ => 0))), (q23_3, .inl (cI, 8, .inl (fun _ => 0)))]) [0, 1, 2, 3] (by decide) rfl
  exact kr_c (u := (q7_1, q15_2, q23_3)) hx hb hr hlocks hP9 hD9 hS dX0_init_33

theorem inX2_init_2 : ∀ w ∈ wsX20, w ∈ wsX2_init := fun _ h => List.mem_cons_of_mem _ (List.mem_append_left _ (List.mem_append_left _ (List.mem_append_right _ h)))
theorem inX2_init_6 : ∀ w ∈ wsX60, w ∈ wsX2_init := fun _ h => List.mem_cons_of_mem _ (List.mem_append_left _ (List.mem_append_right _ h))
theorem inX2_init_0 : ∀ w ∈ wsX00, w ∈ wsX2_init := fun _ h => List.mem_cons_of_mem _ (List.mem_append_right _ h)
abbrev rmkX2_init : Room := { frames := 2, cells := 6, slots := 42, locals := 80 }
set_option maxHeartbeats 4000000 in
set_option maxRecDepth 100000 in
theorem kX2_init (l : Launch) (D : va_G) (sz : Nat) (cI : ClassId) (cC : ClassId) (cJ : ClassId) (cZ : ClassId) (cQ : ClassId) (x : Nat) : Met l yX2_init wsX2_init rmkX2_init (va_Pc [.ref x] (kPreZ D sz [(x, .inr (2, [.int 0, .int 0, .int 0, .int 0, .int 0, .null, .null]))] (kT cI cC cJ cZ cQ))) (kQc D (fun (u9 : Nat × Nat × Nat × Nat × Nat × Nat) => [(x, .inr (2, [.int 0, .int 8, .int 0, .int 0, .int 0, .ref u9.1, .ref u9.2.2.1])), (u9.1, .inr (6, [.ref u9.2.1, .int 8])), (u9.2.1, .inl (cI, 12, .inl atF)), (u9.2.2.1, .inr (0, [.ref u9.2.2.2.1, .ref u9.2.2.2.2.1, .ref u9.2.2.2.2.2, .int 0])), (u9.2.2.2.1, .inl (cI, 8, .inl (fun _ => 0))), (u9.2.2.2.2.1, .inl (cI, 8, .inl (fun _ => 0))), (u9.2.2.2.2.2, .inl (cI, 8, .inl (fun _ => 0)))]) (va_A [(x, .inr (2, [.int 0, .int 0, .int 0, .int 0, .int 0, .null, .null]))] sz)) 6 42 (va_A [(x, .inr (2, [.int 0, .int 0, .int 0, .int 0, .int 0, .null, .null]))] sz) := by
  refine k_metZ (Qf := kQc D (fun (u9 : Nat × Nat × Nat × Nat × Nat × Nat) => [(x, .inr (2, [.int 0, .int 8, .int 0, .int 0, .int 0, .ref u9.1, .ref u9.2.2.1])), (u9.1, .inr (6, [.ref u9.2.1, .int 8])), (u9.2.1, .inl (cI, 12, .inl atF)), (u9.2.2.1, .inr (0, [.ref u9.2.2.2.1, .ref u9.2.2.2.2.1, .ref u9.2.2.2.2.2, .int 0])), (u9.2.2.2.1, .inl (cI, 8, .inl (fun _ => 0))), (u9.2.2.2.2.1, .inl (cI, 8, .inl (fun _ => 0))), (u9.2.2.2.2.2, .inl (cI, 8, .inl (fun _ => 0)))])) (cc := cX2_init) (maxL := 1) (ret := none) (own := RX2) (by decide) rfl (Nat.le_of_ble_eq_true rfl) rfl ?_
  intro p e s m args below meth c ls A H locs hx hb hr hts hown hlocks hml hin hsz hP hK hD hA hS hN hZ hO hl
  have hl : lv_has ls 1 [(0, .ref x)] := hl
  obtain ⟨t9, hz1, hz2, hz3, hz4⟩ := id hZ
  refine lv_aload_n hx hb dX2_init_0 rfl (lv_at hl 0 rfl) ?_
  refine W.objInit hx hb hown (hts (Cond.methodLink RX2 1 objectInit) (List.mem_of_getElem? (i := 1) rfl)) (hts (Cond.instanceMethod objectInit) (List.mem_of_getElem? (i := 2) rfl)) (hts _ (List.mem_of_getElem? (i := 3) rfl)) rfl (by rw [hml]; exact hl.1) rfl dX2_init_1 (Nat.le_of_ble_eq_true rfl) (Nat.le_of_ble_eq_true rfl) ?_
  refine W.eq (g2 := F0 m 4 ls []) rfl ?_
  refine lv_aload_n hx hb dX2_init_4 rfl (lv_at hl 0 rfl) ?_
  refine lv_iconst (v := 0) hx hb dX2_init_5 (by decide) ?_
  refine va_put (D := D) (ci := 2) (v := .int 0) (ty := .int) (C := RX2) (T := TX2) (N := 7) hx hb hts inX2_init_2 tyX2 tyX2_ok nmX2 hown hK hP hD hS 0 rfl rfl 0 (by decide) (hts (Cond.fieldLink RX2 7 "WeighingConverter$State" "voltage" "I") (List.mem_of_getElem? (i := 4) rfl)) (fun _ h9 => h9) rfl (by decide +kernel) rfl rfl (Nat.le_of_ble_eq_true rfl) dX2_init_6 (fun H locs hP hD hS => ?_)
  have hP : va_P D vwCl [(x, .inr (2, [.int 0, .int 0, .int 0, .int 0, .int 0, .null, .null]))] H := hP
  have hD : va_D A [(x, .inr (2, [.int 0, .int 0, .int 0, .int 0, .int 0, .null, .null]))] := hD
  refine lv_aload_n hx hb dX2_init_9 rfl (lv_at hl 0 rfl) ?_
  refine lv_bipush (v := 8) hx hb dX2_init_10 (by decide) ?_
  refine va_put (D := D) (ci := 2) (v := .int 8) (ty := .int) (C := RX2) (T := TX2) (N := 7) hx hb hts inX2_init_2 tyX2 tyX2_ok nmX2 hown hK hP hD hS 0 rfl rfl 1 (by decide) (hts (Cond.fieldLink RX2 13 "WeighingConverter$State" "rate" "I") (List.mem_of_getElem? (i := 5) rfl)) (fun _ h9 => h9) rfl (by decide +kernel) rfl rfl (Nat.le_of_ble_eq_true rfl) dX2_init_12 (fun H locs hP hD hS => ?_)
  have hP : va_P D vwCl [(x, .inr (2, [.int 0, .int 8, .int 0, .int 0, .int 0, .null, .null]))] H := hP
  have hD : va_D A [(x, .inr (2, [.int 0, .int 8, .int 0, .int 0, .int 0, .null, .null]))] := hD
  refine lv_aload_n hx hb dX2_init_15 rfl (lv_at hl 0 rfl) ?_
  refine lv_iconst (v := 0) hx hb dX2_init_16 (by decide) ?_
  refine va_put (D := D) (ci := 2) (v := .int 0) (ty := .int) (C := RX2) (T := TX2) (N := 7) hx hb hts inX2_init_2 tyX2 tyX2_ok nmX2 hown hK hP hD hS 0 rfl rfl 2 (by decide) (hts (Cond.fieldLink RX2 16 "WeighingConverter$State" "leak" "I") (List.mem_of_getElem? (i := 6) rfl)) (fun _ h9 => h9) rfl (by decide +kernel) rfl rfl (Nat.le_of_ble_eq_true rfl) dX2_init_17 (fun H locs hP hD hS => ?_)
  have hP : va_P D vwCl [(x, .inr (2, [.int 0, .int 8, .int 0, .int 0, .int 0, .null, .null]))] H := hP
  have hD : va_D A [(x, .inr (2, [.int 0, .int 8, .int 0, .int 0, .int 0, .null, .null]))] := hD
  refine lv_aload_n hx hb dX2_init_20 rfl (lv_at hl 0 rfl) ?_
  refine lv_iconst (v := 0) hx hb dX2_init_21 (by decide) ?_
  refine va_put (D := D) (ci := 2) (v := .int 0) (ty := .int) (C := RX2) (T := TX2) (N := 7) hx hb hts inX2_init_2 tyX2 tyX2_ok nmX2 hown hK hP hD hS 0 rfl rfl 3 (by decide) (hts (Cond.fieldLink RX2 19 "WeighingConverter$State" "offset" "I") (List.mem_of_getElem? (i := 7) rfl)) (fun _ h9 => h9) rfl (by decide +kernel) rfl rfl (Nat.le_of_ble_eq_true rfl) dX2_init_22 (fun H locs hP hD hS => ?_)
  have hP : va_P D vwCl [(x, .inr (2, [.int 0, .int 8, .int 0, .int 0, .int 0, .null, .null]))] H := hP
  have hD : va_D A [(x, .inr (2, [.int 0, .int 8, .int 0, .int 0, .int 0, .null, .null]))] := hD
  refine lv_aload_n hx hb dX2_init_25 rfl (lv_at hl 0 rfl) ?_
  refine lv_iconst (v := 0) hx hb dX2_init_26 (by decide) ?_
  refine va_put (D := D) (ci := 2) (v := .int 0) (ty := .int) (C := RX2) (T := TX2) (N := 7) hx hb hts inX2_init_2 tyX2 tyX2_ok nmX2 hown hK hP hD hS 0 rfl rfl 4 (by decide) (hts (Cond.fieldLink RX2 22 "WeighingConverter$State" "glitches" "I") (List.mem_of_getElem? (i := 8) rfl)) (fun _ h9 => h9) rfl (by decide +kernel) rfl rfl (Nat.le_of_ble_eq_true rfl) dX2_init_27 (fun H locs hP hD hS => ?_)
  have hP : va_P D vwCl [(x, .inr (2, [.int 0, .int 8, .int 0, .int 0, .int 0, .null, .null]))] H := hP
  have hD : va_D A [(x, .inr (2, [.int 0, .int 8, .int 0, .int 0, .int 0, .null, .null]))] := hD
  refine lv_aload_n hx hb dX2_init_30 rfl (lv_at hl 0 rfl) ?_
  refine va_new (ci := 6) (fs := [.null, .int 0]) (C := RX6) (T := TX6) (N := 2) hx hb hts inX2_init_6 tyX6 tyX6_ok hown (hts (Cond.classLink RX2 25 RX6) (List.mem_of_getElem? (i := 9) rfl)) (hts (Cond.instantiable RX6 2) (List.mem_of_getElem? (i := 10) rfl)) (hts (Cond.initialized RX6) (List.mem_of_getElem? (i := 11) rfl)) hK hP hD hS hA rfl (fun j hj => by rcases (show j = 0 ∨ j = 1 by omega) with rfl | rfl <;> rfl) (Nat.le_of_ble_eq_true rfl) (Nat.le_of_ble_eq_true rfl) dX2_init_31 (fun q31_1 H hP hD hS => ?_)
  have hP : va_P D vwCl [(x, .inr (2, [.int 0, .int 8, .int 0, .int 0, .int 0, .null, .null])), (q31_1, .inr (6, [.null, .int 0]))] H := hP
  have hD : va_D A [(x, .inr (2, [.int 0, .int 8, .int 0, .int 0, .int 0, .null, .null])), (q31_1, .inr (6, [.null, .int 0]))] := hD
  refine W.widen (k := 1) (n := 2) (Nat.le_refl _) (Nat.le_refl _) ?_
  refine lv_dup hx hb dX2_init_34 rfl ?_
  refine kci (As := []) (rest := [.ref q31_1, .ref x]) (wr := [(x, .inr (2, [.int 0, .int 8, .int 0, .int 0, .int 0, .null, .null]))]) ⟨hx, hb, hml, hown, hts⟩ (kX6_init l D H.size cI cC cJ cZ cQ q31_1) (cwI 0 hts gX2_init_X6_init rfl rfl rfl (hts (Cond.initialized RX6) (List.mem_of_getElem? (i := 11) rfl)) (hts (Cond.methodLink RX2 27 yX6_init) (List.mem_of_getElem? (i := 17) rfl)) (hts (Cond.instanceMethod yX6_init) (List.mem_of_getElem? (i := 18) rfl)) rfl (by decide +kernel) ⟨Nat.le_of_ble_eq_true rfl, Nat.le_of_ble_eq_true rfl⟩) hP hD hK hS hA hN hZ hO [1] [0] rfl rfl (by decide) (by decide) (by decide) rfl hl.1 rfl (Nat.le_of_ble_eq_true rfl) dX2_init_35 ⟨Nat.le_of_ble_eq_true rfl, Nat.le_of_ble_eq_true rfl⟩ (fun u_2 H locs hP hD hS => ?_)
  obtain ⟨y1_2, rfl⟩ : ∃ z, z = u_2 := ⟨_, rfl⟩
  have hP : va_P D vwCl [(x, .inr (2, [.int 0, .int 8, .int 0, .int 0, .int 0, .null, .null])), (q31_1, .inr (6, [.ref y1_2, .int 8])), (y1_2, .inl (cI, 12, .inl atF))] H := hP
  have hD : va_D A [(x, .inr (2, [.int 0, .int 8, .int 0, .int 0, .int 0, .null, .null])), (q31_1, .inr (6, [.ref y1_2, .int 8])), (y1_2, .inl (cI, 12, .inl atF))] := hD
  refine W.widen (k := 2) (n := 14) (Nat.le_refl _) (Nat.le_refl _) ?_
  refine va_putF (D := D) (ci := 2) (v := .ref q31_1) (ty := (.object "WeighingConverter$Weights")) (C := RX2) (T := TX2) (N := 7) hx hb hts inX2_init_2 tyX2 tyX2_ok nmX2 hown hK hP hD hS 0 rfl rfl 5 (by decide) (hts (Cond.fieldLink RX2 28 "WeighingConverter$State" "weights" "LWeighingConverter$Weights;") (List.mem_of_getElem? (i := 12) rfl)) (fun _ h9 => h9) rfl hin rfl (by decide +kernel) rfl rfl (Nat.le_of_ble_eq_true rfl) dX2_init_38 (fun H locs hP hD hS => ?_)
  have hP : va_P D vwCl [(x, .inr (2, [.int 0, .int 8, .int 0, .int 0, .int 0, .ref q31_1, .null])), (q31_1, .inr (6, [.ref y1_2, .int 8])), (y1_2, .inl (cI, 12, .inl atF))] H := hP
  have hD : va_D A [(x, .inr (2, [.int 0, .int 8, .int 0, .int 0, .int 0, .ref q31_1, .null])), (q31_1, .inr (6, [.ref y1_2, .int 8])), (y1_2, .inl (cI, 12, .inl atF))] := hD
  refine lv_aload_n hx hb dX2_init_41 rfl (lv_at hl 0 rfl) ?_
  refine va_new (ci := 0) (fs := [.null, .null, .null, .int 0]) (C := RX0) (T := TX0) (N := 4) hx hb hts inX2_init_0 tyX0 tyX0_ok hown (hts (Cond.classLink RX2 32 RX0) (List.mem_of_getElem? (i := 13) rfl)) (hts (Cond.instantiable RX0 4) (List.mem_of_getElem? (i := 14) rfl)) (hts (Cond.initialized RX0) (List.mem_of_getElem? (i := 15) rfl)) hK hP hD hS hA rfl (fun j hj => by rcases (show j = 0 ∨ j = 1 ∨ j = 2 ∨ j = 3 by omega) with rfl | rfl | rfl | rfl <;> rfl) (Nat.le_of_ble_eq_true rfl) (Nat.le_of_ble_eq_true rfl) dX2_init_42 (fun q42_3 H hP hD hS => ?_)
  have hP : va_P D vwCl [(x, .inr (2, [.int 0, .int 8, .int 0, .int 0, .int 0, .ref q31_1, .null])), (q31_1, .inr (6, [.ref y1_2, .int 8])), (y1_2, .inl (cI, 12, .inl atF)), (q42_3, .inr (0, [.null, .null, .null, .int 0]))] H := hP
  have hD : va_D A [(x, .inr (2, [.int 0, .int 8, .int 0, .int 0, .int 0, .ref q31_1, .null])), (q31_1, .inr (6, [.ref y1_2, .int 8])), (y1_2, .inl (cI, 12, .inl atF)), (q42_3, .inr (0, [.null, .null, .null, .int 0]))] := hD
  refine W.widen (k := 3) (n := 18) (Nat.le_refl _) (Nat.le_refl _) ?_
  refine lv_dup hx hb dX2_init_45 rfl ?_
  refine kcn (As := []) (rest := [.ref q42_3, .ref x]) (wr := [(x, .inr (2, [.int 0, .int 8, .int 0, .int 0, .int 0, .ref q31_1, .null])), (q31_1, .inr (6, [.ref y1_2, .int 8])), (y1_2, .inl (cI, 12, .inl atF))]) ⟨hx, hb, hml, hown, hts⟩ (kX0_init l D H.size cI cC cJ cZ cQ q42_3) ⟨va_cnB 0 hts gX2_init_X0_init_n34 rfl rfl rfl hN.2.1 (hts (Cond.initialized RX0) (List.mem_of_getElem? (i := 15) rfl)) (by decide +kernel) ⟨Nat.le_of_ble_eq_true rfl, Nat.le_of_ble_eq_true rfl⟩, rfl, hts (Cond.instanceMethod yX0_init) (List.mem_of_getElem? (i := 29) rfl)⟩ hP hD hK hS hA hN hZ hO [3] [0, 1, 2] rfl rfl (by decide) (by decide) (by decide) rfl hl.1 rfl (Nat.le_of_ble_eq_true rfl) dX2_init_46 ⟨Nat.le_of_ble_eq_true rfl, Nat.le_of_ble_eq_true rfl⟩ (fun u_4 H locs hP hD hS => ?_)
  obtain ⟨y1_4, y2_4, y3_4⟩ := u_4
  have hP : va_P D vwCl [(x, .inr (2, [.int 0, .int 8, .int 0, .int 0, .int 0, .ref q31_1, .null])), (q31_1, .inr (6, [.ref y1_2, .int 8])), (y1_2, .inl (cI, 12, .inl atF)), (q42_3, .inr (0, [.ref y1_4, .ref y2_4, .ref y3_4, .int 0])), (y1_4, .inl (cI, 8, .inl (fun _ => 0))), (y2_4, .inl (cI, 8, .inl (fun _ => 0))), (y3_4, .inl (cI, 8, .inl (fun _ => 0)))] H := hP
  have hD : va_D A [(x, .inr (2, [.int 0, .int 8, .int 0, .int 0, .int 0, .ref q31_1, .null])), (q31_1, .inr (6, [.ref y1_2, .int 8])), (y1_2, .inl (cI, 12, .inl atF)), (q42_3, .inr (0, [.ref y1_4, .ref y2_4, .ref y3_4, .int 0])), (y1_4, .inl (cI, 8, .inl (fun _ => 0))), (y2_4, .inl (cI, 8, .inl (fun _ => 0))), (y3_4, .inl (cI, 8, .inl (fun _ => 0)))] := hD
  refine W.widen (k := 6) (n := 42) (Nat.le_refl _) (Nat.le_refl _) ?_
  refine va_putF (D := D) (ci := 2) (v := .ref q42_3) (ty := (.object "WeighingConverter$Log")) (C := RX2) (T := TX2) (N := 7) hx hb hts inX2_init_2 tyX2 tyX2_ok nmX2 hown hK hP hD hS 0 rfl rfl 6 (by decide) (hts (Cond.fieldLink RX2 35 "WeighingConverter$State" "log" "LWeighingConverter$Log;") (List.mem_of_getElem? (i := 16) rfl)) (fun _ h9 => h9) rfl hin rfl (by decide +kernel) rfl rfl (Nat.le_of_ble_eq_true rfl) dX2_init_49 (fun H locs hP hD hS => ?_)
  have hP : va_P D vwCl [(x, .inr (2, [.int 0, .int 8, .int 0, .int 0, .int 0, .ref q31_1, .ref q42_3])), (q31_1, .inr (6, [.ref y1_2, .int 8])), (y1_2, .inl (cI, 12, .inl atF)), (q42_3, .inr (0, [.ref y1_4, .ref y2_4, .ref y3_4, .int 0])), (y1_4, .inl (cI, 8, .inl (fun _ => 0))), (y2_4, .inl (cI, 8, .inl (fun _ => 0))), (y3_4, .inl (cI, 8, .inl (fun _ => 0)))] H := hP
  have hD : va_D A [(x, .inr (2, [.int 0, .int 8, .int 0, .int 0, .int 0, .ref q31_1, .ref q42_3])), (q31_1, .inr (6, [.ref y1_2, .int 8])), (y1_2, .inl (cI, 12, .inl atF)), (q42_3, .inr (0, [.ref y1_4, .ref y2_4, .ref y3_4, .int 0])), (y1_4, .inl (cI, 8, .inl (fun _ => 0))), (y2_4, .inl (cI, 8, .inl (fun _ => 0))), (y3_4, .inl (cI, 8, .inl (fun _ => 0)))] := hD
  have hP9 := hP.sub (ws' := [(x, .inr (2, [.int 0, .int 8, .int 0, .int 0, .int 0, .ref q31_1, .ref q42_3])), (q31_1, .inr (6, [.ref y1_2, .int 8])), (y1_2, .inl (cI, 12, .inl atF)), (q42_3, .inr (0, [.ref y1_4, .ref y2_4, .ref y3_4, .int 0])), (y1_4, .inl (cI, 8, .inl (fun _ => 0))), (y2_4, .inl (cI, 8, .inl (fun _ => 0))), (y3_4, .inl (cI, 8, .inl (fun _ => 0)))]) [0, 1, 2, 3, 4, 5, 6] rfl
  have hD9 := hD.sub (ws' := [(x, .inr (2, [.int 0, .int 8, .int 0, .int 0, .int 0, .ref q31_1, .ref q42_3])), (q31_1, .inr (6, [.ref y1_2, .int 8])), (y1_2, .inl (cI, 12, .inl atF)), (q42_3, .inr (0, [.ref y1_4, .ref y2_4, .ref y3_4, .int 0])), (y1_4, .inl (cI, 8, .inl (fun _ => 0))), (y2_4, .inl (cI, 8, .inl (fun _ => 0))), (y3_4, .inl (cI, 8, .inl (fun _ => 0)))]) [0, 1, 2, 3, 4, 5, 6] (by decide) rfl
  exact kr_c (u := (q31_1, y1_2, q42_3, y1_4, y2_4, y3_4)) hx hb hr hlocks hP9 hD9 hS dX2_init_52

theorem inX3_init_3 : ∀ w ∈ wsX30, w ∈ wsX3_init := fun _ h => List.mem_cons_of_mem _ (List.mem_append_right _ h)
abbrev rmkX3_init : Room := { frames := 1, cells := 1, slots := 64, locals := 12 }
set_option maxHeartbeats 4000000 in
set_option maxRecDepth 100000 in
theorem kX3_init (l : Launch) (D : va_G) (sz : Nat) (cI : ClassId) (cC : ClassId) (cJ : ClassId) (cZ : ClassId) (cQ : ClassId) (x : Nat) : Met l yX3_init wsX3_init rmkX3_init (va_Pc [.ref x] (kPreZ D sz [(x, .inr (3, [.null]))] (kT cI cC cJ cZ cQ))) (kQc D (fun (u9 : Nat) => [(x, .inr (3, [.ref u9])), (u9, .inl (cJ, 64, .inr (.inl (fun _ => 0))))]) (va_A [(x, .inr (3, [.null]))] sz)) 1 64 (va_A [(x, .inr (3, [.null]))] sz) := by
  refine k_metZ (Qf := kQc D (fun (u9 : Nat) => [(x, .inr (3, [.ref u9])), (u9, .inl (cJ, 64, .inr (.inl (fun _ => 0))))])) (cc := cX3_init) (maxL := 1) (ret := none) (own := RX3) (by decide) rfl (Nat.le_of_ble_eq_true rfl) rfl ?_
  intro p e s m args below meth c ls A H locs hx hb hr hts hown hlocks hml hin hsz hP hK hD hA hS hN hZ hO hl
  have hl : lv_has ls 1 [(0, .ref x)] := hl
  obtain ⟨t9, hz1, hz2, hz3, hz4⟩ := id hZ
  refine lv_aload_n hx hb dX3_init_0 rfl (lv_at hl 0 rfl) ?_
  refine W.objInit hx hb hown (hts (.methodLink RX3 5 objectInit) (List.mem_of_getElem? (i := 1) rfl)) (hts (.instanceMethod objectInit) (List.mem_of_getElem? (i := 2) rfl)) (hts _ (List.mem_of_getElem? (i := 3) rfl)) rfl (by rw [hml]; exact hl.1) rfl dX3_init_1 (Nat.le_of_ble_eq_true rfl) (Nat.le_of_ble_eq_true rfl) ?_
  refine W.eq (g2 := F0 m 4 ls []) rfl ?_
  refine lv_aload_n hx hb dX3_init_4 rfl (lv_at hl 0 rfl) ?_
  refine lv_bipush (v := 64) hx hb dX3_init_5 (by decide) ?_
  refine k_newa (atype := .long) (cT := cJ) (ty := .long) (N' := 64) (a0 := (64, .inr (.inl (fun _ => 0)))) hx hb (hts (.arrayClass .long) (List.mem_of_getElem? (i := 4) rfl)) rfl rfl hK 2 rfl hP hD hS hA (fun _ => rfl) (by decide) (by decide) (Nat.le_of_ble_eq_true rfl) (Nat.le_of_ble_eq_true rfl) (Nat.le_of_ble_eq_true rfl) dX3_init_7 (fun q7_1 H hP hD hS => ?_)
  have hP : va_P D vwCl [(x, .inr (3, [.null])), (q7_1, .inl (cJ, 64, .inr (.inl (fun _ => 0))))] H := hP
  have hD : va_D A [(x, .inr (3, [.null])), (q7_1, .inl (cJ, 64, .inr (.inl (fun _ => 0))))] := hD
  refine W.widen (k := 1) (n := 64) (Nat.le_refl _) (Nat.le_refl _) ?_
  refine va_putF (D := D) (ci := 3) (v := .ref q7_1) (ty := (.array .long)) (C := RX3) (T := TX3) (N := 1) hx hb hts inX3_init_3 tyX3 tyX3_ok nmX3 hown hK hP hD hS 0 rfl rfl 0 (by decide) (hts (.fieldLink RX3 11 "WeighingConverter$SumSet" "words" "[J") (List.mem_of_getElem? (i := 5) rfl)) (fun _ h9 => h9) rfl hin rfl (by decide +kernel) rfl rfl (Nat.le_of_ble_eq_true rfl) dX3_init_9 (fun H locs hP hD hS => ?_)
  have hP : va_P D vwCl [(x, .inr (3, [.ref q7_1])), (q7_1, .inl (cJ, 64, .inr (.inl (fun _ => 0))))] H := hP
  have hD : va_D A [(x, .inr (3, [.ref q7_1])), (q7_1, .inl (cJ, 64, .inr (.inl (fun _ => 0))))] := hD
  have hP9 := hP.sub (ws' := [(x, .inr (3, [.ref q7_1])), (q7_1, .inl (cJ, 64, .inr (.inl (fun _ => 0))))]) [0, 1] rfl
  have hD9 := hD.sub (ws' := [(x, .inr (3, [.ref q7_1])), (q7_1, .inl (cJ, 64, .inr (.inl (fun _ => 0))))]) [0, 1] (by decide) rfl
  exact kr_c (u := (q7_1)) hx hb hr hlocks hP9 hD9 hS dX3_init_12

theorem inX4_init_4 : ∀ w ∈ wsX40, w ∈ wsX4_init := fun _ h => List.mem_cons_of_mem _ (List.mem_append_right _ h)
abbrev rmkX4_init : Room := { frames := 1, cells := 0, slots := 0, locals := 12 }
set_option maxHeartbeats 4000000 in
set_option maxRecDepth 100000 in
theorem kX4_init (l : Launch) (D : va_G) (sz : Nat) (cI : ClassId) (cC : ClassId) (cJ : ClassId) (cZ : ClassId) (cQ : ClassId) (x : Nat) : Met l yX4_init wsX4_init rmkX4_init (va_Pc [.ref x] (kPreZ D sz [(x, .inr (4, [.int 0, .int 0, .int 0]))] (kT cI cC cJ cZ cQ))) (kQc D (fun (u9 : Unit) => [(x, .inr (4, [.int 0, .int 0, .int 0]))]) (va_A [(x, .inr (4, [.int 0, .int 0, .int 0]))] sz)) 0 0 (va_A [(x, .inr (4, [.int 0, .int 0, .int 0]))] sz) := by
  refine k_metZ (Qf := kQc D (fun (u9 : Unit) => [(x, .inr (4, [.int 0, .int 0, .int 0]))])) (cc := cX4_init) (maxL := 1) (ret := none) (own := RX4) (by decide) rfl (Nat.le_of_ble_eq_true rfl) rfl ?_
  intro p e s m args below meth c ls A H locs hx hb hr hts hown hlocks hml hin hsz hP hK hD hA hS hN hZ hO hl
  have hl : lv_has ls 1 [(0, .ref x)] := hl
  obtain ⟨t9, hz1, hz2, hz3, hz4⟩ := id hZ
  refine lv_aload_n hx hb dX4_init_0 rfl (lv_at hl 0 rfl) ?_
  refine W.objInit hx hb hown (hts (.methodLink RX4 3 objectInit) (List.mem_of_getElem? (i := 1) rfl)) (hts (.instanceMethod objectInit) (List.mem_of_getElem? (i := 2) rfl)) (hts _ (List.mem_of_getElem? (i := 3) rfl)) rfl (by rw [hml]; exact hl.1) rfl dX4_init_1 (Nat.le_of_ble_eq_true rfl) (Nat.le_of_ble_eq_true rfl) ?_
  refine W.eq (g2 := F0 m 4 ls []) rfl ?_
  refine lv_aload_n hx hb dX4_init_4 rfl (lv_at hl 0 rfl) ?_
  refine lv_iconst (v := 0) hx hb dX4_init_5 (by decide) ?_
  refine va_put (D := D) (ci := 4) (v := .int 0) (ty := .int) (C := RX4) (T := TX4) (N := 3) hx hb hts inX4_init_4 tyX4 tyX4_ok nmX4 hown hK hP hD hS 0 rfl rfl 0 (by decide) (hts (.fieldLink RX4 9 "WeighingConverter$Weighing" "voltage" "I") (List.mem_of_getElem? (i := 4) rfl)) (fun _ h9 => h9) rfl (by decide +kernel) rfl rfl (Nat.le_of_ble_eq_true rfl) dX4_init_6 (fun H locs hP hD hS => ?_)
  have hP : va_P D vwCl [(x, .inr (4, [.int 0, .int 0, .int 0]))] H := hP
  have hD : va_D A [(x, .inr (4, [.int 0, .int 0, .int 0]))] := hD
  refine lv_aload_n hx hb dX4_init_9 rfl (lv_at hl 0 rfl) ?_
  refine lv_iconst (v := 0) hx hb dX4_init_10 (by decide) ?_
  refine va_put (D := D) (ci := 4) (v := .int 0) (ty := .int) (C := RX4) (T := TX4) (N := 3) hx hb hts inX4_init_4 tyX4 tyX4_ok nmX4 hown hK hP hD hS 0 rfl rfl 1 (by decide) (hts (.fieldLink RX4 15 "WeighingConverter$Weighing" "kept" "I") (List.mem_of_getElem? (i := 5) rfl)) (fun _ h9 => h9) rfl (by decide +kernel) rfl rfl (Nat.le_of_ble_eq_true rfl) dX4_init_11 (fun H locs hP hD hS => ?_)
  have hP : va_P D vwCl [(x, .inr (4, [.int 0, .int 0, .int 0]))] H := hP
  have hD : va_D A [(x, .inr (4, [.int 0, .int 0, .int 0]))] := hD
  refine lv_aload_n hx hb dX4_init_14 rfl (lv_at hl 0 rfl) ?_
  refine lv_iconst (v := 0) hx hb dX4_init_15 (by decide) ?_
  refine va_put (D := D) (ci := 4) (v := .int 0) (ty := .int) (C := RX4) (T := TX4) (N := 3) hx hb hts inX4_init_4 tyX4 tyX4_ok nmX4 hown hK hP hD hS 0 rfl rfl 2 (by decide) (hts (.fieldLink RX4 18 "WeighingConverter$Weighing" "code" "I") (List.mem_of_getElem? (i := 6) rfl)) (fun _ h9 => h9) rfl (by decide +kernel) rfl rfl (Nat.le_of_ble_eq_true rfl) dX4_init_16 (fun H locs hP hD hS => ?_)
  have hP : va_P D vwCl [(x, .inr (4, [.int 0, .int 0, .int 0]))] H := hP
  have hD : va_D A [(x, .inr (4, [.int 0, .int 0, .int 0]))] := hD
  have hP9 := hP.sub (ws' := [(x, .inr (4, [.int 0, .int 0, .int 0]))]) [0] rfl
  have hD9 := hD.sub (ws' := [(x, .inr (4, [.int 0, .int 0, .int 0]))]) [0] (by decide) rfl
  exact kr_c (u := ()) hx hb hr hlocks hP9 hD9 hS dX4_init_19

theorem inX5_init_5 : ∀ w ∈ wsX50, w ∈ wsX5_init := fun _ h => List.mem_cons_of_mem _ (List.mem_append_right _ h)
abbrev rmkX5_init : Room := { frames := 1, cells := 1, slots := 60, locals := 12 }
set_option maxHeartbeats 4000000 in
set_option maxRecDepth 100000 in
theorem kX5_init (l : Launch) (D : va_G) (sz : Nat) (cI : ClassId) (cC : ClassId) (cJ : ClassId) (cZ : ClassId) (cQ : ClassId) (x : Nat) : Met l yX5_init wsX5_init rmkX5_init (va_Pc [.ref x] (kPreZ D sz [(x, .inr (5, [.null, .int 0]))] (kT cI cC cJ cZ cQ))) (kQc D (fun (u9 : Nat) => [(x, .inr (5, [.ref u9, .int 0])), (u9, .inl (cC, 60, .inl (fun _ => 0)))]) (va_A [(x, .inr (5, [.null, .int 0]))] sz)) 1 60 (va_A [(x, .inr (5, [.null, .int 0]))] sz) := by
  refine k_metZ (Qf := kQc D (fun (u9 : Nat) => [(x, .inr (5, [.ref u9, .int 0])), (u9, .inl (cC, 60, .inl (fun _ => 0)))])) (cc := cX5_init) (maxL := 1) (ret := none) (own := RX5) (by decide) rfl (Nat.le_of_ble_eq_true rfl) rfl ?_
  intro p e s m args below meth c ls A H locs hx hb hr hts hown hlocks hml hin hsz hP hK hD hA hS hN hZ hO hl
  have hl : lv_has ls 1 [(0, .ref x)] := hl
  obtain ⟨t9, hz1, hz2, hz3, hz4⟩ := id hZ
  refine lv_aload_n hx hb dX5_init_0 rfl (lv_at hl 0 rfl) ?_
  refine W.objInit hx hb hown (hts (.methodLink RX5 3 objectInit) (List.mem_of_getElem? (i := 1) rfl)) (hts (.instanceMethod objectInit) (List.mem_of_getElem? (i := 2) rfl)) (hts _ (List.mem_of_getElem? (i := 3) rfl)) rfl (by rw [hml]; exact hl.1) rfl dX5_init_1 (Nat.le_of_ble_eq_true rfl) (Nat.le_of_ble_eq_true rfl) ?_
  refine W.eq (g2 := F0 m 4 ls []) rfl ?_
  refine lv_aload_n hx hb dX5_init_4 rfl (lv_at hl 0 rfl) ?_
  refine lv_bipush (v := 60) hx hb dX5_init_5 (by decide) ?_
  refine k_newa (atype := .char) (cT := cC) (ty := .char) (N' := 60) (a0 := (60, .inl (fun _ => 0))) hx hb (hts (.arrayClass .char) (List.mem_of_getElem? (i := 4) rfl)) rfl rfl hK 1 rfl hP hD hS hA (fun _ => rfl) (by decide) (by decide) (Nat.le_of_ble_eq_true rfl) (Nat.le_of_ble_eq_true rfl) (Nat.le_of_ble_eq_true rfl) dX5_init_7 (fun q7_1 H hP hD hS => ?_)
  have hP : va_P D vwCl [(x, .inr (5, [.null, .int 0])), (q7_1, .inl (cC, 60, .inl (fun _ => 0)))] H := hP
  have hD : va_D A [(x, .inr (5, [.null, .int 0])), (q7_1, .inl (cC, 60, .inl (fun _ => 0)))] := hD
  refine W.widen (k := 1) (n := 60) (Nat.le_refl _) (Nat.le_refl _) ?_
  refine va_putF (D := D) (ci := 5) (v := .ref q7_1) (ty := (.array .char)) (C := RX5) (T := TX5) (N := 2) hx hb hts inX5_init_5 tyX5 tyX5_ok nmX5 hown hK hP hD hS 0 rfl rfl 0 (by decide) (hts (.fieldLink RX5 9 "WeighingConverter$WeightText" "signs" "[C") (List.mem_of_getElem? (i := 5) rfl)) (fun _ h9 => h9) rfl hin rfl (by decide +kernel) rfl rfl (Nat.le_of_ble_eq_true rfl) dX5_init_9 (fun H locs hP hD hS => ?_)
  have hP : va_P D vwCl [(x, .inr (5, [.ref q7_1, .int 0])), (q7_1, .inl (cC, 60, .inl (fun _ => 0)))] H := hP
  have hD : va_D A [(x, .inr (5, [.ref q7_1, .int 0])), (q7_1, .inl (cC, 60, .inl (fun _ => 0)))] := hD
  refine lv_aload_n hx hb dX5_init_12 rfl (lv_at hl 0 rfl) ?_
  refine lv_iconst (v := 0) hx hb dX5_init_13 (by decide) ?_
  refine va_put (D := D) (ci := 5) (v := .int 0) (ty := .int) (C := RX5) (T := TX5) (N := 2) hx hb hts inX5_init_5 tyX5 tyX5_ok nmX5 hown hK hP hD hS 0 rfl rfl 1 (by decide) (hts (.fieldLink RX5 15 "WeighingConverter$WeightText" "length" "I") (List.mem_of_getElem? (i := 6) rfl)) (fun _ h9 => h9) rfl (by decide +kernel) rfl rfl (Nat.le_of_ble_eq_true rfl) dX5_init_14 (fun H locs hP hD hS => ?_)
  have hP : va_P D vwCl [(x, .inr (5, [.ref q7_1, .int 0])), (q7_1, .inl (cC, 60, .inl (fun _ => 0)))] H := hP
  have hD : va_D A [(x, .inr (5, [.ref q7_1, .int 0])), (q7_1, .inl (cC, 60, .inl (fun _ => 0)))] := hD
  have hP9 := hP.sub (ws' := [(x, .inr (5, [.ref q7_1, .int 0])), (q7_1, .inl (cC, 60, .inl (fun _ => 0)))]) [0, 1] rfl
  have hD9 := hD.sub (ws' := [(x, .inr (5, [.ref q7_1, .int 0])), (q7_1, .inl (cC, 60, .inl (fun _ => 0)))]) [0, 1] (by decide) rfl
  exact kr_c (u := (q7_1)) hx hb hr hlocks hP9 hD9 hS dX5_init_17
