/-! THE CLAIM OUT OF ONE WALK OF THE LAW'S BODY. Your part is whole_start (and what it stands on); all else here is the same for every law, but numbers. -/
def R_law : String := "WeighingConverterLaw"
def lw_P (b : Addr) (xs : List Int32) (args : Array Value) (s : State) : Prop := args = #[.ref b] ∧ s.IntsAt b xs ∧ xs.length ≤ 1536 ∧ (Jvm.Cond.and given_1 narrow_1).before args s = true
/-- what a walk over the start with the record d0 says of its end, said of the start itself -/
theorem lw_closed {s t : State} {o : Outcome} {d0 : Drawn} {L : List Loc} {k n : Nat} (hd0 : s.drawn.sameBut d0 lw_cs) (hv : ∃ v, o = .returned v) (hW : (s.setDrawn d0).WarmedH t.vm) (hs : (s.setDrawn d0).sameButNew ({ t with vm := s.vm } : State) L k n) : State.butDraws s t lw_cs (fun t1 => Framed s o t1 L k n) := by
  have h2 : t.drawn = d0 := congrArg State.drawn hs.1
  refine ⟨⟨hv, hW, State.sameButNew.setDrawn hs s.drawn⟩, ?_, by decide⟩
  rw [h2]
  exact hd0
def lw_Q (_ : Array Value) (s : State) (o : Outcome) (t : State) : Prop := o = .returned (some (.int 1)) ∧ State.butDraws s t lw_cs (fun t1 => Framed s o t1 [] 601024 7293034)
def lw_Z (below : List Frame) (a : Array Value) (s : State) : State → Prop := fun t => ∃ o, t.status = .running ∧ Ended t below o ∧ lw_Q a s o t
/-- the law's own end, with 1 on the stack, nothing written that was there before, its room as the claim has it; d0: the record of draws at this point (at the entry s.drawn: begin with 'refine W.base ?_' and 'have hd0 := Drawn.sameBut.refl s.drawn lw_cs') -/
theorem lw_ret {p : Program} {l : Launch} {e : Env} {s : State} {m : MethodId} {below : List Frame} {meth : Method} {c : Code} {b : Nat} {d0 : Drawn} (hd0 : s.drawn.sameBut d0 lw_cs) (hx : p.tables.exec = Jvm.exec) (hb : c.code = code) (hr : meth.sig.returnType = ret) (hlocks : meth.locks = false) {pc : Nat} {H : Heap} {ls : Array Slot} (hdg : decode code pc = .ok (.ireturn, 1)) : W p l e room_1 (s.setDrawn d0) m #[Value.ref b] below meth c H [] 601024 7293034 (lw_Z below #[Value.ref b] s) (F0 m pc ls [.int 1]) := by
  intro T hT X
  obtain ⟨fs, hret, hrun, hended, hW, hframe⟩ := X.leave (v := some (.int 1)) (hlocks := hlocks) (fun h => by rw [hr] at h; cases h)
  have hmeth' : T.vm.method? m = some meth := X.method'
  refine ⟨T.setFrames fs, ?_, .returned (some (.int 1)), hrun, hended, rfl, lw_closed hd0 ⟨_, rfl⟩ hW hframe⟩
  jvm_step X.here [X.here.top, hx, hb, hdg, hmeth', hr, ret, narrow_b1]
  (try refine ⟨rfl, ?_⟩); (try refine ⟨rfl, ?_⟩)
  first | (intro acts; rw [hret _ acts rfl rfl rfl]) | rw [hret _ _ rfl rfl rfl]
  exact Steps.refl _
/-- what holds at the law's entry: the machine, the code, the tables' words (any of lw_tbl by 'hts w (by decide +kernel)'), the script of L ints xs at the cell b, what the Statement gives of the start (any of its parts by flat_of_before) -/
def lw_At (p : Program) (s : State) (m : MethodId) (meth : Method) (c : Code) (b L : Nat) (xs : Nat → Int32) : Prop :=
  p.tables.exec = Jvm.exec ∧ c.code = code ∧ meth.sig.returnType = ret ∧ c.maxLocals = 9 ∧ s.vm.findClass R_law = some m.cls ∧ (∀ w ∈ lw_tbl, w.before #[Value.ref b] s = true) ∧ va_X b L xs s s.heap ∧ b < s.heap.size ∧ meth.locks = false ∧ (Jvm.Cond.and given_1 narrow_1).before #[Value.ref b] s = true
set_option maxHeartbeats 8000000 in
set_option maxRecDepth 100000 in
/-- the law's loop -/
theorem lc_loop {p : Program} {l : Launch} {e : Env} {s : State} {m : MethodId} {below : List Frame} {meth : Method} {c : Code} {b L : Nat} {xs : Nat → Int32} {D : va_G} {cI cC cJ cZ cQ : ClassId} {x0 a0 a1 a2 a3 a4 a5 a6 v0 v1 t0 t1 h0 u0 u1 m0 m1 m2 m3 m4 m5 m6 o : Nat} {pa : Nat → Nat} {rg : Nat → Option Nat} (hM : lx_M p l s m meth c b L xs D cI cC cJ cZ cQ) (hr : meth.sig.returnType = ret) (hlocks : meth.locks = false) : ∀ (n i cells slots : Nat) (d0 : Drawn) (H : Heap) (locs : List Loc) (ls : Array Slot), L + 1 ≤ i + n → i ≤ L → cells ≤ 1000 + i → slots ≤ 20000 + 2 * i → s.drawn.sameBut d0 lw_cs → lx_W D cI cC cJ cZ cQ x0 a0 a1 a2 a3 a4 a5 a6 v0 v1 t0 t1 h0 u0 u1 m0 m1 m2 m3 m4 m5 m6 o pa rg s.heap H locs → lv_has ls 9 [(4, .int (nI i)), (0, .ref b), (1, .ref x0), (2, .ref m0), (3, .ref o)] → W p l e room_1 (s.setDrawn d0) m #[Value.ref b] below meth c H locs cells slots (lw_Z below #[Value.ref b] s) (F0 m 23 ls []) := by
  intro n
  induction n with
  | zero =>
    intro i cells slots d0 H locs ls hn hi
    omega
  | succ n ih =>
    intro i cells slots d0 H locs ls hn hi hc hs hd0 hW hl
    obtain ⟨hx, hb, hml, hown, hts, hX, hbl, hL, hst, hK, hN, hE, hO⟩ := lx_drawn hM d0
    have hbA : ¬ (fun q : Nat => s.heap.size ≤ q) b := Nat.not_le.mpr hbl
    have hS : va_S (fun q : Nat => s.heap.size ≤ q) s.heap H locs := by
      obtain ⟨_, _, _, _, _, _, _, _, _, _, _, _, _, _, _, _, _, _, _, _, _, -, -, -, -, -, -, hS⟩ := hW
      exact hS
    refine lv_iload hx hb dL_law_23 (lv_at hl 0 rfl) ?_
    refine lv_aload_n hx hb dL_law_25 rfl (lv_at hl 1 rfl) ?_
    refine va_slen hx hb hX hbl hbA hS dL_law_26 ?_
    refine lv_iconst (v := 3) hx hb dL_law_27 (by decide) ?_
    refine lv_isub hx hb dL_law_28 ?_
    have e3 : (nI L - 3).toInt = (L : Int) - 3 := by
      have z1 : (3 : Int32).toInt = 3 := by decide
      have z2 := nI_toInt (n := L) (by omega)
      rw [i_sub (by rw [z1, z2]; omega) (by rw [z1, z2]; omega), z1, z2]
    have ei := nI_toInt (n := i) (by omega)
    refine lv_icmp_gt (tgt := 1453) hx hb dL_law_29 (by decide) (fun _ => ?_) (fun q => ?_)
    · refine lv_iconst (v := 1) hx hb dL_law_1453 (by decide) ?_
      refine va_forget (fun q hq => hS.2.2 q hq) ?_
      refine W.widen (k := 601024) (n := 7293034) (by omega) (by omega) ?_
      exact lw_ret hd0 hx hb hr hlocks dL_law_1454
    · have h3 : i + 3 ≤ L := by
        have q9 : ¬ nI L - 3 < nI i := q
        rw [i_lt, e3, ei] at q9
        omega
      have K : ∀ d1 : Drawn, s.drawn.sameBut d1 lw_cs → lx_K p l e (s.setDrawn d1) m b below meth c D cI cC cJ cZ cQ x0 a0 a1 a2 a3 a4 a5 a6 v0 v1 t0 t1 h0 u0 u1 m0 m1 m2 m3 m4 m5 m6 o pa rg i cells slots (lw_Z below #[Value.ref b] s) := by
        intro d1 hd1 H locs cells1 slots1 ls k1 k2 hW hl
        refine lv_iinc (v := nI (i + 3)) (lv' := [(4, .int (nI (i + 3))), (0, .ref b), (1, .ref x0), (2, .ref m0), (3, .ref o)]) hx hb dL_law_1447 hl (k := 0) rfl (nI_add i 3) (by decide) rfl (fun ls hl => ?_)
        refine lv_goto (tgt := 23) hx hb dL_law_1450 (by decide) ?_
        exact ih (i + 3) cells1 slots1 d1 H locs ls (by omega) h3 (by omega) (by omega) hd1 hW hl
      have hf1 : cells + 1 ≤ room_1.cells ∧ slots + 6 ≤ room_1.slots := ⟨by show cells + 1 ≤ 601024; omega, by show slots + 6 ≤ 7293034; omega⟩
      have hM1 := lx_drawn hM d0
      refine lv_aload_n hx hb dL_law_32 rfl (lv_at hl 1 rfl) ?_
      refine lv_iload hx hb dL_law_33 (lv_at hl 0 rfl) ?_
      refine va_sld hx hb hX hbl hbA hS (vp_in_nI (by omega) (by omega)) dL_law_35 ?_
      refine lv_bipush (v := 63) hx hb dL_law_36 (by decide) ?_
      refine lv_iand hx hb dL_law_38 ?_
      refine lv_topi (fun x9 _ => ?_)
      by_cases c0 : x9.toInt = 0
      · refine lv_tableIn (tgt := 184) (off := 145) hx hb dL_law_39 (by omega) (by omega) (by rw [c0]; rfl) (by decide) ?_
        exact lc_sample hM1 h3 hW hl hf1 (K d0 hd0)
      by_cases c1 : x9.toInt = 1
      · refine lv_tableIn (tgt := 252) (off := 213) hx hb dL_law_39 (by omega) (by omega) (by rw [c1]; rfl) (by decide) ?_
        exact lc_hold hM1 h3 hW hl hf1 (K d0 hd0)
      by_cases c2 : x9.toInt = 2
      · refine lv_tableIn (tgt := 308) (off := 269) hx hb dL_law_39 (by omega) (by omega) (by rw [c2]; rfl) (by decide) ?_
        exact lc_voltage hM1 h3 hW hl hf1 (K d0 hd0)
      by_cases c3 : x9.toInt = 3
      · refine lv_tableIn (tgt := 321) (off := 282) hx hb dL_law_39 (by omega) (by omega) (by rw [c3]; rfl) (by decide) ?_
        exact lc_setCapacitor hM1 h3 hW hl hf1 (K d0 hd0)
      by_cases c4 : x9.toInt = 4
      · refine lv_tableIn (tgt := 389) (off := 350) hx hb dL_law_39 (by omega) (by omega) (by rw [c4]; rfl) (by decide) ?_
        exact lc_setOffset hM1 h3 hW hl hf1 (K d0 hd0)
      by_cases c5 : x9.toInt = 5
      · refine lv_tableIn (tgt := 445) (off := 406) hx hb dL_law_39 (by omega) (by omega) (by rw [c5]; rfl) (by decide) ?_
        exact lc_setGlitch hM1 h3 hW hl hf1 (K d0 hd0)
      by_cases c6 : x9.toInt = 6
      · refine lv_tableIn (tgt := 508) (off := 469) hx hb dL_law_39 (by omega) (by omega) (by rw [c6]; rfl) (by decide) ?_
        exact lc_setWeight hM1 h3 hW hl hf1 (K d0 hd0)
      by_cases c7 : x9.toInt = 7
      · refine lv_tableIn (tgt := 576) (off := 537) hx hb dL_law_39 (by omega) (by omega) (by rw [c7]; rfl) (by decide) ?_
        exact lc_insertWeight hM1 h3 hW hl hf1 (K d0 hd0)
      by_cases c8 : x9.toInt = 8
      · refine lv_tableIn (tgt := 644) (off := 605) hx hb dL_law_39 (by omega) (by omega) (by rw [c8]; rfl) (by decide) ?_
        exact lc_removeWeight hM1 h3 hW hl hf1 (K d0 hd0)
      by_cases c9 : x9.toInt = 9
      · refine lv_tableIn (tgt := 700) (off := 661) hx hb dL_law_39 (by omega) (by omega) (by rw [c9]; rfl) (by decide) ?_
        exact lc_sortWeights hM1 h3 hW hl hf1 (K d0 hd0)
      by_cases c10 : x9.toInt = 10
      · refine lv_tableIn (tgt := 713) (off := 674) hx hb dL_law_39 (by omega) (by omega) (by rw [c10]; rfl) (by decide) ?_
        exact lc_weights hM1 h3 hW hl hf1 (K d0 hd0)
      by_cases c11 : x9.toInt = 11
      · refine lv_tableIn (tgt := 726) (off := 687) hx hb dL_law_39 (by omega) (by omega) (by rw [c11]; rfl) (by decide) ?_
        exact lc_weight hM1 h3 hW hl hf1 (K d0 hd0)
      by_cases c12 : x9.toInt = 12
      · refine lv_tableIn (tgt := 782) (off := 743) hx hb dL_law_39 (by omega) (by omega) (by rw [c12]; rfl) (by decide) ?_
        exact lc_total hM1 h3 hW hl hf1 (K d0 hd0)
      by_cases c13 : x9.toInt = 13
      · refine lv_tableIn (tgt := 795) (off := 756) hx hb dL_law_39 (by omega) (by omega) (by rw [c13]; rfl) (by decide) ?_
        exact lc_convert hM1 h3 hW hl hf1 (K d0 hd0)
      by_cases c14 : x9.toInt = 14
      · refine lv_tableIn (tgt := 808) (off := 769) hx hb dL_law_39 (by omega) (by omega) (by rw [c14]; rfl) (by decide) ?_
        exact lc_logged hM1 h3 hW hl hf1 (K d0 hd0)
      by_cases c15 : x9.toInt = 15
      · refine lv_tableIn (tgt := 821) (off := 782) hx hb dL_law_39 (by omega) (by omega) (by rw [c15]; rfl) (by decide) ?_
        exact lc_code hM1 h3 hW hl hf1 (K d0 hd0)
      by_cases c16 : x9.toInt = 16
      · refine lv_tableIn (tgt := 877) (off := 838) hx hb dL_law_39 (by omega) (by omega) (by rw [c16]; rfl) (by decide) ?_
        exact lc_kept hM1 h3 hW hl hf1 (K d0 hd0)
      by_cases c17 : x9.toInt = 17
      · refine lv_tableIn (tgt := 933) (off := 894) hx hb dL_law_39 (by omega) (by omega) (by rw [c17]; rfl) (by decide) ?_
        exact lc_error hM1 h3 hW hl hf1 (K d0 hd0)
      by_cases c18 : x9.toInt = 18
      · refine lv_tableIn (tgt := 989) (off := 950) hx hb dL_law_39 (by omega) (by omega) (by rw [c18]; rfl) (by decide) ?_
        exact lc_meanError hd0 hM h3 hW hl hf1 K
      by_cases c19 : x9.toInt = 19
      · refine lv_tableIn (tgt := 1030) (off := 991) hx hb dL_law_39 (by omega) (by omega) (by rw [c19]; rfl) (by decide) ?_
        exact lc_ideal hM1 h3 hW hl hf1 (K d0 hd0)
      by_cases c20 : x9.toInt = 20
      · refine lv_tableIn (tgt := 1086) (off := 1047) hx hb dL_law_39 (by omega) (by omega) (by rw [c20]; rfl) (by decide) ?_
        exact lc_nextCode hM1 h3 hW hl hf1 (K d0 hd0)
      by_cases c21 : x9.toInt = 21
      · refine lv_tableIn (tgt := 1099) (off := 1060) hx hb dL_law_39 (by omega) (by omega) (by rw [c21]; rfl) (by decide) ?_
        exact lc_sums hM1 h3 hW hl hf1 (K d0 hd0)
      by_cases c22 : x9.toInt = 22
      · refine lv_tableIn (tgt := 1112) (off := 1073) hx hb dL_law_39 (by omega) (by omega) (by rw [c22]; rfl) (by decide) ?_
        exact lc_leastMissing hM1 h3 hW hl hf1 (K d0 hd0)
      by_cases c23 : x9.toInt = 23
      · refine lv_tableIn (tgt := 1125) (off := 1086) hx hb dL_law_39 (by omega) (by omega) (by rw [c23]; rfl) (by decide) ?_
        exact lc_mended hM1 h3 hW hl hf1 (K d0 hd0)
      by_cases c24 : x9.toInt = 24
      · refine lv_tableIn (tgt := 1181) (off := 1142) hx hb dL_law_39 (by omega) (by omega) (by rw [c24]; rfl) (by decide) ?_
        exact lc_ticksToChange hM1 h3 hW hl hf1 (K d0 hd0)
      by_cases c25 : x9.toInt = 25
      · refine lv_tableIn (tgt := 1194) (off := 1155) hx hb dL_law_39 (by omega) (by omega) (by rw [c25]; rfl) (by decide) ?_
        exact lc_ticksToSettle hM1 h3 hW hl hf1 (K d0 hd0)
      by_cases c26 : x9.toInt = 26
      · refine lv_tableIn (tgt := 1250) (off := 1211) hx hb dL_law_39 (by omega) (by omega) (by rw [c26]; rfl) (by decide) ?_
        exact lc_append hM1 h3 hW hl hf1 (K d0 hd0)
      by_cases c27 : x9.toInt = 27
      · refine lv_tableIn (tgt := 1306) (off := 1267) hx hb dL_law_39 (by omega) (by omega) (by rw [c27]; rfl) (by decide) ?_
        exact lc_clearText hM1 h3 hW hl hf1 (K d0 hd0)
      by_cases c28 : x9.toInt = 28
      · refine lv_tableIn (tgt := 1319) (off := 1280) hx hb dL_law_39 (by omega) (by omega) (by rw [c28]; rfl) (by decide) ?_
        exact lc_firstError hM1 h3 hW hl hf1 (K d0 hd0)
      by_cases c29 : x9.toInt = 29
      · refine lv_tableIn (tgt := 1332) (off := 1293) hx hb dL_law_39 (by omega) (by omega) (by rw [c29]; rfl) (by decide) ?_
        exact lc_load hM1 h3 hW hl hf1 (K d0 hd0)
      by_cases c30 : x9.toInt = 30
      · refine lv_tableIn (tgt := 1376) (off := 1337) hx hb dL_law_39 (by omega) (by omega) (by rw [c30]; rfl) (by decide) ?_
        exact lc_undo hM1 h3 hW hl hf1 (K d0 hd0)
      by_cases c31 : x9.toInt = 31
      · refine lv_tableIn (tgt := 1420) (off := 1381) hx hb dL_law_39 (by omega) (by omega) (by rw [c31]; rfl) (by decide) ?_
        exact lc_savedStates hM1 h3 hW hl hf1 (K d0 hd0)
      by_cases c32 : x9.toInt = 32
      · refine lv_tableIn (tgt := 1433) (off := 1394) hx hb dL_law_39 (by omega) (by omega) (by rw [c32]; rfl) (by decide) ?_
        exact lc_digest hM1 h3 hW hl hf1 (K d0 hd0)
      refine lv_tableOut (tgt := 1447) hx hb dL_law_39 (by omega) (by decide) ?_
      exact K d0 hd0 _ _ _ _ _ (Nat.le_succ _) (Nat.le_add_right _ 6) hW hl
