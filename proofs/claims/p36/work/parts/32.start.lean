/-! the law's entry: what the statement gives, the constructor; laid by program (wip/p36/gen/loop.py) -/
section LS
variable {s : State} {b : Nat}
theorem ls_N (hts : ∀ w ∈ lw_tbl, w.before #[Value.ref b] s = true) : kN s := by
  exact ⟨va_Nw.of (w := .methodLinkNest RX7 9 yX2_init RX7) rfl (hts (.methodLinkNest RX7 9 yX2_init RX7) (List.mem_of_getElem? (i := 33) (by decide +kernel))), va_Nw.of (w := .methodLinkNest RX2 34 yX0_init RX7) rfl (hts (.methodLinkNest RX2 34 yX0_init RX7) (List.mem_of_getElem? (i := 65) (by decide +kernel))), va_Nw.of (w := .methodLinkNest RX1 24 yX2_init RX7) rfl (hts (.methodLinkNest RX1 24 yX2_init RX7) (List.mem_of_getElem? (i := 122) (by decide +kernel))), va_Nw.of (w := .methodLinkNest RX7 25 yX5_init RX7) rfl (hts (.methodLinkNest RX7 25 yX5_init RX7) (List.mem_of_getElem? (i := 136) (by decide +kernel))), va_Nw.of (w := .methodLinkNest RX7 32 yX4_init RX7) rfl (hts (.methodLinkNest RX7 32 yX4_init RX7) (List.mem_of_getElem? (i := 151) (by decide +kernel))), va_Nw.of (w := .methodLinkNest RX7 39 yX3_init RX7) rfl (hts (.methodLinkNest RX7 39 yX3_init RX7) (List.mem_of_getElem? (i := 170) (by decide +kernel))), va_Nw.of (w := .methodLinkNest RX4 26 yX7_afterHoldTick RX7) rfl (hts (.methodLinkNest RX4 26 yX7_afterHoldTick RX7) (List.mem_of_getElem? (i := 219) (by decide +kernel))), va_Nw.of (w := .methodLinkNest RX4 34 yX7_hasBit RX7) rfl (hts (.methodLinkNest RX4 34 yX7_hasBit RX7) (List.mem_of_getElem? (i := 222) (by decide +kernel)))⟩
theorem ls_O (hgv : (Jvm.Cond.and given_1 narrow_1).before #[Value.ref b] s = true) : kO s := by
  have hs := flat_of_before _ hgv
  exact ⟨va_Nc.of (hs (Cond.not (.castable "java/lang/IllegalArgumentException" "java/lang/IndexOutOfBoundsException")) (by decide +kernel)), va_Nc.of (hs (Cond.not (.castable "java/lang/IllegalStateException" "java/lang/IndexOutOfBoundsException")) (by decide +kernel)), va_Nc.of (hs (Cond.not (.castable "java/lang/IllegalStateException" "java/lang/IllegalArgumentException")) (by decide +kernel))⟩
theorem ls_S1 {k : Nat} {tx : String} (h1 : (Cond.stringRef RX7 k tx).before #[Value.ref b] s = true) (h2 : (Cond.exactly (.string RX7 k) "java/lang/String").before #[Value.ref b] s = true) : kSt1 k tx s := by
  obtain ⟨a, c, cell, k2, h3, -⟩ := Cond.exactly_spec h2
  exact ⟨a, vk_R.of h1 h3⟩
theorem ls_St (hts : ∀ w ∈ lw_tbl, w.before #[Value.ref b] s = true) (hgv : (Jvm.Cond.and given_1 narrow_1).before #[Value.ref b] s = true) : kStr s := by
  have hs := flat_of_before _ hgv
  exact ⟨ls_S1 (hts (.stringRef RX7 100 "there is no room for one more weight") (List.mem_of_getElem? (i := 491) (by decide +kernel))) (hs (Cond.exactly (.string RX7 100) "java/lang/String") (by decide +kernel)), ls_S1 (hts (.stringRef RX7 108 "the only weight stays") (List.mem_of_getElem? (i := 500) (by decide +kernel))) (hs (Cond.exactly (.string RX7 108) "java/lang/String") (by decide +kernel)), ls_S1 (hts (.stringRef RX7 177 "the buffer is full") (List.mem_of_getElem? (i := 509) (by decide +kernel))) (hs (Cond.exactly (.string RX7 177) "java/lang/String") (by decide +kernel)), ls_S1 (hts (.stringRef RX7 191 "the buffer is no complete weight text") (List.mem_of_getElem? (i := 529) (by decide +kernel))) (hs (Cond.exactly (.string RX7 191) "java/lang/String") (by decide +kernel)), ls_S1 (hts (.stringRef RX7 198 "no state is saved") (List.mem_of_getElem? (i := 270) (by decide +kernel))) (hs (Cond.exactly (.string RX7 198) "java/lang/String") (by decide +kernel)), ls_S1 (hts (.stringRef RX7 244 "an argument is out of range") (List.mem_of_getElem? (i := 449) (by decide +kernel))) (hs (Cond.exactly (.string RX7 244) "java/lang/String") (by decide +kernel)), ls_S1 (hts (.stringRef RX7 248 "there is no such number") (List.mem_of_getElem? (i := 393) (by decide +kernel))) (hs (Cond.exactly (.string RX7 248) "java/lang/String") (by decide +kernel))⟩
theorem ls_E (hts : ∀ w ∈ lw_tbl, w.before #[Value.ref b] s = true) (hgv : (Jvm.Cond.and given_1 narrow_1).before #[Value.ref b] s = true) : kE (fun q : Nat => s.heap.size ≤ q) s s.heap := by
  have hs := flat_of_before _ hgv
  have hA : ∀ a : Nat, a < s.heap.size → ¬ (fun q : Nat => s.heap.size ≤ q) a := fun a h => Nat.not_le.mpr h
  exact ⟨vx_Zqof (hts (.laysStatic Bundle.tN "UNASSIGNED_STACK" Bundle.steD) (List.mem_of_getElem? (i := 256) (by decide +kernel))) (hts (.initialized Bundle.tN) (List.mem_of_getElem? (i := 15) (by decide +kernel))) (hs (Cond.isRef (.static Bundle.tN "UNASSIGNED_STACK" Bundle.steD)) (by decide +kernel)) hA, vx_Zqof (hts (.laysStatic Bundle.tN "SUPPRESSED_SENTINEL" Bundle.listD) (List.mem_of_getElem? (i := 258) (by decide +kernel))) (hts (.initialized Bundle.tN) (List.mem_of_getElem? (i := 15) (by decide +kernel))) (hs (Cond.isRef (.static Bundle.tN "SUPPRESSED_SENTINEL" Bundle.listD)) (by decide +kernel)) hA, ⟨va_Nw.of (w := .declares (Bundle.initS "java/lang/RuntimeException")) rfl (hts (.declares (Bundle.initS "java/lang/RuntimeException")) (List.mem_of_getElem? (i := 233) (by decide +kernel))), va_Nw.of (w := .declares (Bundle.initS "java/lang/Exception")) rfl (hts (.declares (Bundle.initS "java/lang/Exception")) (List.mem_of_getElem? (i := 235) (by decide +kernel))), va_Nw.of (w := .declares (Bundle.initS Bundle.tN)) rfl (hts (.declares (Bundle.initS Bundle.tN)) (List.mem_of_getElem? (i := 237) (by decide +kernel)))⟩, ⟨va_Nw.of (w := .castable "java/lang/IllegalArgumentException" "java/lang/IllegalArgumentException") rfl (hts (.castable "java/lang/IllegalArgumentException" "java/lang/IllegalArgumentException") (List.mem_of_getElem? (i := 442) (by decide +kernel))), va_Nw.of (w := .castable "java/lang/IllegalStateException" "java/lang/IllegalStateException") rfl (hts (.castable "java/lang/IllegalStateException" "java/lang/IllegalStateException") (List.mem_of_getElem? (i := 231) (by decide +kernel))), va_Nw.of (w := .castable "java/lang/IndexOutOfBoundsException" "java/lang/IndexOutOfBoundsException") rfl (hts (.castable "java/lang/IndexOutOfBoundsException" "java/lang/IndexOutOfBoundsException") (List.mem_of_getElem? (i := 386) (by decide +kernel)))⟩, ls_St hts hgv⟩
theorem ls_Z (hts : ∀ w ∈ lw_tbl, w.before #[Value.ref b] s = true) (hgv : (Jvm.Cond.and given_1 narrow_1).before #[Value.ref b] s = true) : kZ (fun q : Nat => s.heap.size ≤ q) s s.heap := by
  have hs := flat_of_before _ hgv
  have hA : ∀ a : Nat, a < s.heap.size → ¬ (fun q : Nat => s.heap.size ≤ q) a := fun a h => Nat.not_le.mpr h
  have hlen : (Term.length (Term.static RX6 "AT_FIRST" "[I")).eval #[Value.ref b] s none [] s = some (.int 8) := va_eqt (hs (Cond.eq (.length (Term.static RX6 "AT_FIRST" "[I")) (.int 8)) (by decide +kernel))
  have hel : ∀ j : Nat, j < 8 → (Term.elem (Term.static RX6 "AT_FIRST" "[I") (.int (Int32.ofNat j))).eval #[Value.ref b] s none [] s = some (.int (atF j)) := by
    intro j hj
    rcases (show j = 0 ∨ j = 1 ∨ j = 2 ∨ j = 3 ∨ j = 4 ∨ j = 5 ∨ j = 6 ∨ j = 7 by omega) with rfl | rfl | rfl | rfl | rfl | rfl | rfl | rfl
    · exact va_eqt (hs (Cond.eq (.elem (Term.static RX6 "AT_FIRST" "[I") (.int 0)) (.int 128)) (by decide +kernel))
    · exact va_eqt (hs (Cond.eq (.elem (Term.static RX6 "AT_FIRST" "[I") (.int 1)) (.int 64)) (by decide +kernel))
    · exact va_eqt (hs (Cond.eq (.elem (Term.static RX6 "AT_FIRST" "[I") (.int 2)) (.int 32)) (by decide +kernel))
    · exact va_eqt (hs (Cond.eq (.elem (Term.static RX6 "AT_FIRST" "[I") (.int 3)) (.int 16)) (by decide +kernel))
    · exact va_eqt (hs (Cond.eq (.elem (Term.static RX6 "AT_FIRST" "[I") (.int 4)) (.int 8)) (by decide +kernel))
    · exact va_eqt (hs (Cond.eq (.elem (Term.static RX6 "AT_FIRST" "[I") (.int 5)) (.int 4)) (by decide +kernel))
    · exact va_eqt (hs (Cond.eq (.elem (Term.static RX6 "AT_FIRST" "[I") (.int 6)) (.int 2)) (by decide +kernel))
    · exact va_eqt (hs (Cond.eq (.elem (Term.static RX6 "AT_FIRST" "[I") (.int 7)) (.int 1)) (by decide +kernel))
  obtain ⟨t, ht, cell, h1, h2, h3, h4, h5, h6, h7⟩ := va_Tof (ty := .int) (N := 8) (f := fun j => .int (atF j)) (A := (fun q : Nat => s.heap.size ≤ q)) (by decide) (hs (Cond.arrayOf (Term.static RX6 "AT_FIRST" "[I") .int) (by decide +kernel)) hlen hel hA
  obtain ⟨t2, cell2, g1, g2, g3, g4⟩ := Jvm.Lib.length_spec hlen
  have e1 : t2 = t := by
    have e9 := g1.symm.trans ht
    cases e9
    rfl
  have e2 : cell2 = cell := by
    have e9 := (State.arrayAt?_spec g2).1
    rw [e1, h1] at e9
    exact (Option.some.inj e9).symm
  rw [e2] at g3
  have hsz : cell.slots.size = 8 := by
    have e9 : (Int32.ofNat cell.slots.size).toInt = (Int32.ofNat 8).toInt := congrArg Int32.toInt h5
    have e8 : (nI cell.slots.size).toInt = (nI 8).toInt := e9
    rw [nI_toInt g3, nI_toInt (by decide)] at e8
    omega
  exact ⟨t, va_Zof (hts (.laysStatic RX6 "AT_FIRST" "[I") (List.mem_of_getElem? (i := 44) (by decide +kernel))) (hts (.initialized RX6) (List.mem_of_getElem? (i := 8) (by decide +kernel))) ht hA, ⟨cell, h1, h2, h3, hsz, h6⟩, (Array.getElem?_eq_some_iff.mp h1).1, h7⟩
theorem ls_ar {ty : FieldType} (hp : ∀ U cA, U.vm.findClass ("[" ++ ty.toString) = some cA → va_RA U cA ty) (h : (Cond.arrayClass ty).before #[Value.ref b] s = true) : ∃ cA, ArrOfT s cA ty ∧ va_RA s cA ty := by
  obtain ⟨cA, k, comp, h1, h2, h3⟩ := Cond.arrayClass_spec h
  exact ⟨cA, fun n z => ⟨fun k h => (by cases h), k, h2, comp, h3⟩, hp s cA h1⟩
theorem ls_aq (h : (Cond.arrayOver (.object RX2)).before #[Value.ref b] s = true) : ∃ cA, ArrOfT s cA (.object RX2) ∧ va_RA s cA (.object RX2) := by
  obtain ⟨comp, cA, k, h1, -, h2, h3, h4⟩ := Cond.arrayOver_spec h
  exact ⟨cA, fun n z => ⟨fun k h => (by cases h), k, h2, comp, h3⟩, k, comp, h2, h3, h1, h4⟩
theorem ls_K (hts : ∀ w ∈ lw_tbl, w.before #[Value.ref b] s = true) : ∃ (D : va_G) (cI cC cJ cZ cQ : ClassId), va_K D vwCl (kT cI cC cJ cZ cQ) s := by
  obtain ⟨c0, i0, n0⟩ := u_known (C := RX0) (T := TX0) (N := 4) (n := 4) hts wsL_law_in0_wsX00 (hts (.instantiable RX0 4) (List.mem_of_getElem? (i := 64) (by decide +kernel)))
  obtain ⟨c1, i1, n1⟩ := u_known (C := RX1) (T := TX1) (N := 3) (n := 3) hts wsL_law_in0_wsX10 (hts (.instantiable RX1 3) (List.mem_of_getElem? (i := 115) (by decide +kernel)))
  obtain ⟨c2, i2, n2⟩ := u_known (C := RX2) (T := TX2) (N := 7) (n := 7) hts wsL_law_in0_wsX20 (hts (.instantiable RX2 7) (List.mem_of_getElem? (i := 32) (by decide +kernel)))
  obtain ⟨c3, i3, n3⟩ := u_known (C := RX3) (T := TX3) (N := 1) (n := 1) hts wsL_law_in0_wsX30 (hts (.instantiable RX3 1) (List.mem_of_getElem? (i := 169) (by decide +kernel)))
  obtain ⟨c4, i4, n4⟩ := u_known (C := RX4) (T := TX4) (N := 3) (n := 3) hts wsL_law_in0_wsX40 (hts (.instantiable RX4 3) (List.mem_of_getElem? (i := 150) (by decide +kernel)))
  obtain ⟨c5, i5, n5⟩ := u_known (C := RX5) (T := TX5) (N := 2) (n := 2) hts wsL_law_in0_wsX50 (hts (.instantiable RX5 2) (List.mem_of_getElem? (i := 135) (by decide +kernel)))
  obtain ⟨c6, i6, n6⟩ := u_known (C := RX6) (T := TX6) (N := 2) (n := 2) hts wsL_law_in0_wsX60 (hts (.instantiable RX6 2) (List.mem_of_getElem? (i := 38) (by decide +kernel)))
  obtain ⟨c7, i7, n7⟩ := u_known (C := RX7) (T := TX7) (N := 5) (n := 5) hts wsL_law_in0_wsX70 (hts (.instantiable RX7 5) (List.mem_of_getElem? (i := 24) (by decide +kernel)))
  obtain ⟨cI, rI, sI⟩ := ls_ar (ty := .int) (fun _ _ h => h) (hts (.arrayClass .int) (List.mem_of_getElem? (i := 62) (by decide +kernel)))
  obtain ⟨cC, rC, sC⟩ := ls_ar (ty := .char) (fun _ _ h => h) (hts (.arrayClass .char) (List.mem_of_getElem? (i := 148) (by decide +kernel)))
  obtain ⟨cJ, rJ, sJ⟩ := ls_ar (ty := .long) (fun _ _ h => h) (hts (.arrayClass .long) (List.mem_of_getElem? (i := 178) (by decide +kernel)))
  obtain ⟨cQ, rQ, sQ⟩ := ls_aq (hts (.arrayOver (.object RX2)) (List.mem_of_getElem? (i := 121) (by decide +kernel)))
  refine ⟨(fun k => [c0, c1, c2, c3, c4, c5, c6, c7].getD k c0, fun k => [i0, i1, i2, i3, i4, i5, i6, i7].getD k i0), cI, cC, cJ, cJ, cQ, fun k q hq => ?_, fun k q hq => ?_⟩
  · match k, hq with
    | 0, hq => cases hq; exact n0
    | 1, hq => cases hq; exact n1
    | 2, hq => cases hq; exact n2
    | 3, hq => cases hq; exact n3
    | 4, hq => cases hq; exact n4
    | 5, hq => cases hq; exact n5
    | 6, hq => cases hq; exact n6
    | 7, hq => cases hq; exact n7
    | k + 8, hq => exact absurd hq (by simp [vwCl])
  · match k, hq with
    | 0, hq => cases hq; exact ⟨rI, sI⟩
    | 1, hq => cases hq; exact ⟨rC, sC⟩
    | 2, hq => cases hq; exact ⟨rJ, sJ⟩
    | 3, hq => cases hq; exact ⟨rJ, sJ⟩
    | 4, hq => cases hq; exact ⟨rQ, sQ⟩
    | k + 5, hq => exact absurd hq (by simp [kT])
end LS
set_option maxHeartbeats 8000000 in
set_option maxRecDepth 100000 in
/-- THE LAW, from its entry -/
theorem whole_start {p : Program} {e : Env} {s : State} {m : MethodId} {below : List Frame} {meth : Method} {c : Code} (l : Launch) (hflags : l.flags = flags0) {b L : Nat} {xs : Nat → Int32} (hL : L ≤ 260) (C0 : lw_At p s m meth c b L xs) : W p l e room_1 s m #[Value.ref b] below meth c s.heap [] 0 0 (lw_Z below #[Value.ref b] s) (entryFrame m ([Value.ref b] : List Value).toArray 15) := by
  obtain ⟨hx, hb, hr, hml, hown, hts, hX, hbl, hlocks, hgv⟩ := id C0
  have htw : ∀ w ∈ wsL_law, w.before #[Value.ref b] s = true := fun w h => hts w (wsL_law_in w h)
  have m1 : ∀ w ∈ wsL_law0_r1, w.before #[Value.ref b] s = true := fun w h => hts w (wsL_law_in0_1 w h)
  have hst : l.stackTraces = false := by
    rw [Launch.stackTraces, hflags]
    decide +kernel
  have hA : ∀ q : Nat, s.heap.size ≤ q → (fun q : Nat => s.heap.size ≤ q) q := fun _ h => h
  have hS : va_S (fun q : Nat => s.heap.size ≤ q) s.heap s.heap [] := va_S.rf
  obtain ⟨D, cI, cC, cJ, cZ, cQ, hK⟩ := ls_K hts
  have hN := ls_N hts
  have hE := ls_E hts hgv
  have hZ := ls_Z hts hgv
  have hO := ls_O hgv
  have hO2 : va_AO RX2 s := va_AO.of (hts (.arrayOver (.object RX2)) (List.mem_of_getElem? (i := 121) (by decide +kernel)))
  have hM : lx_M p l s m meth c b L xs D cI cC cJ cZ cQ := ⟨hx, hb, hml, hown, htw, hX, hbl, hL, hst, hK, hN, hE, hO⟩
  have hP : va_P D vwCl [] s.heap := fun k q h => by simp at h
  have hD : va_D (fun q : Nat => s.heap.size ≤ q) [] := ⟨fun i j p q h => by simp at h, fun k q h => by simp at h⟩
  have hl := lv_entry ([.ref b]) (n := 15) (Nat.le_of_ble_eq_true rfl)
  rw [lg_entry_eq]
  generalize (lg_sl ([.ref b]) ++ List.replicate (15 - (lg_sl ([.ref b])).length) Slot.unset).toArray = ls at hl ⊢
  have hl : lv_has ls 15 [(0, .ref b)] := hl
  refine va_new (ci := 7) (fs := [.null, .null, .null, .null, .null]) (C := RX7) (T := TX7) (N := 5) hx hb hts wsL_law_in0_wsX70 tyX7 tyX7_ok hown (m1 (Cond.classLink RL 11 RX7) (List.mem_of_getElem? (i := 0) rfl)) (m1 (Cond.instantiable RX7 5) (List.mem_of_getElem? (i := 1) rfl)) (m1 (Cond.initialized RX7) (List.mem_of_getElem? (i := 2) rfl)) hK hP hD hS hA rfl (fun j hj => by rcases (show j = 0 ∨ j = 1 ∨ j = 2 ∨ j = 3 ∨ j = 4 by omega) with rfl | rfl | rfl | rfl | rfl <;> rfl) (Nat.le_of_ble_eq_true rfl) (Nat.le_of_ble_eq_true rfl) dL_law_0 (fun x9 H hP hD hS => ?_)
  have hP : va_P D vwCl [(x9, .inr (7, [.null, .null, .null, .null, .null]))] H := hP
  have hD : va_D (fun q : Nat => s.heap.size ≤ q) [(x9, .inr (7, [.null, .null, .null, .null, .null]))] := hD
  refine lv_dup hx hb dL_law_3 rfl ?_
  refine kci (As := []) (rest := [.ref x9]) (wr := []) ⟨hx, hb, hml, hown, htw⟩ (kX7_init l D H.size cI cC cJ cZ cQ x9) (cwI 0 htw gL_law_X7_init rfl rfl rfl (m1 (Cond.initialized RX7) (List.mem_of_getElem? (i := 2) rfl)) (m1 (Cond.methodLink RL 150 yX7_init) (List.mem_of_getElem? (i := 3) rfl)) (m1 (Cond.instanceMethod yX7_init) (List.mem_of_getElem? (i := 4) rfl)) rfl (by decide +kernel) ⟨Nat.le_of_ble_eq_true rfl, Nat.le_of_ble_eq_true rfl⟩) hP hD hK hS hA hN hZ hO2 [0] [] rfl rfl (by decide) (by decide) (by decide) rfl hl.1 rfl (Nat.le_of_ble_eq_true rfl) dL_law_4 ⟨Nat.le_of_ble_eq_true rfl, Nat.le_of_ble_eq_true rfl⟩ (fun u8 H locs hP hD hS => ?_)
  have hP : va_P D vwCl (w1X7_init cI cC cJ cZ cQ x9 u8) H := hP
  have hD : va_D (fun q : Nat => s.heap.size ≤ q) (w1X7_init cI cC cJ cZ cQ x9 u8) := hD
  refine lv_astore_n (lv' := [(1, .ref x9), (0, .ref b)]) hx hb dL_law_7 rfl hl (by decide) rfl (fun ls hl => ?_)
  have hP2 : va_P D vwCl (fmB (LB cI cC cJ cZ cQ x9 u8.1 u8.2.2.2.2.2.1 u8.2.2.2.2.2.2.2.1 u8.2.2.2.2.2.2.1 u8.2.2.2.2.2.2.2.2.1 u8.2.2.2.2.2.2.2.2.2.1 u8.2.2.2.2.2.2.2.2.2.2.1 u8.2.1 u8.2.2.2.2.2.2.2.2.2.2.2.1 u8.2.2.1 u8.2.2.2.2.2.2.2.2.2.2.2.2.2.1 u8.2.2.2.1 u8.2.2.2.2.1 u8.2.2.2.2.2.2.2.2.2.2.2.2.2.2 u8.2.2.2.2.2.2.2.2.2.2.2.2.1 (rg0 u8.2.2.2.2.2.2.2.2.2.2.2.2.1) zIni 0 0 (fun _ => zIni) (fun _ => 0) 0 0 0) [0, 1, 2, 3, 4, 5, 6, 7]) H := hP
  have hD2 : va_D (fun q : Nat => s.heap.size ≤ q) (fmB (LB cI cC cJ cZ cQ x9 u8.1 u8.2.2.2.2.2.1 u8.2.2.2.2.2.2.2.1 u8.2.2.2.2.2.2.1 u8.2.2.2.2.2.2.2.2.1 u8.2.2.2.2.2.2.2.2.2.1 u8.2.2.2.2.2.2.2.2.2.2.1 u8.2.1 u8.2.2.2.2.2.2.2.2.2.2.2.1 u8.2.2.1 u8.2.2.2.2.2.2.2.2.2.2.2.2.2.1 u8.2.2.2.1 u8.2.2.2.2.1 u8.2.2.2.2.2.2.2.2.2.2.2.2.2.2 u8.2.2.2.2.2.2.2.2.2.2.2.2.1 (rg0 u8.2.2.2.2.2.2.2.2.2.2.2.2.1) zIni 0 0 (fun _ => zIni) (fun _ => 0) 0 0 0) [0, 1, 2, 3, 4, 5, 6, 7]) := hD
  have hrg := rg0_ok u8.2.2.2.2.2.2.2.2.2.2.2.2.1
  refine lb_0 (A := (fun q : Nat => s.heap.size ≤ q)) hx hb hml hown htw hst hK hN hE hO hA hrg hP2 hD2 hS (oI_ini _) rfl rfl hl (by omega) (by omega) (fun H locs ls wd hv hk hc hP hD hS hl => ?_)
  refine W.base ?_
  exact lc_loop hM hrg hr hlocks 51 0 _ _ s.drawn H locs ls (by omega) (by omega) (by omega) (by omega) (Drawn.sameBut.refl s.drawn lw_cs) ⟨zIni, 0, 0, (fun _ => zIni), wd, hv, hk, hc, oI_ini _, hP, hD, hS⟩ hl
