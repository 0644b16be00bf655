/-! THE CLAIM OUT OF ONE WALK OF THE LAW'S BODY. Your part is whole_start (and what it stands on); all else here is the same for every law, but numbers. -/
def R_law : String := "WeighingConverterLaw"
def lw_P (b : Addr) (xs : List Int32) (args : Array Value) (s : State) : Prop := args = #[.ref b] ∧ s.IntsAt b xs ∧ xs.length ≤ 260 ∧ (Jvm.Cond.and given_1 narrow_1).before args s = true
/-- what a walk over the start with the record d0 says of its end, said of the start itself -/
theorem lw_closed {s t : State} {o : Outcome} {d0 : Drawn} {L : List Loc} {k n : Nat} (hd0 : s.drawn.sameBut d0 lw_cs) (hv : ∃ v, o = .returned v) (hW : (s.setDrawn d0).WarmedH t.vm) (hs : (s.setDrawn d0).sameButNew ({ t with vm := s.vm } : State) L k n) : State.butDraws s t lw_cs (fun t1 => Framed s o t1 L k n) := by
  have h2 : t.drawn = d0 := congrArg State.drawn hs.1
  refine ⟨⟨hv, hW, State.sameButNew.setDrawn hs s.drawn⟩, ?_, by decide⟩
  rw [h2]
  exact hd0
def lw_Q (_ : Array Value) (s : State) (o : Outcome) (t : State) : Prop := o = .returned (some (.int 1)) ∧ State.butDraws s t lw_cs (fun t1 => Framed s o t1 [] 649488 7152719)
def lw_Z (below : List Frame) (a : Array Value) (s : State) : State → Prop := fun t => ∃ o, t.status = .running ∧ Ended t below o ∧ lw_Q a s o t
/-- the law's own end, with 1 on the stack, nothing written that was there before, its room as the claim has it; d0: the record of draws at this point (at the entry s.drawn: begin with 'refine W.base ?_' and 'have hd0 := Drawn.sameBut.refl s.drawn lw_cs') -/
theorem lw_ret {p : Program} {l : Launch} {e : Env} {s : State} {m : MethodId} {below : List Frame} {meth : Method} {c : Code} {b : Nat} {d0 : Drawn} (hd0 : s.drawn.sameBut d0 lw_cs) (hx : p.tables.exec = Jvm.exec) (hb : c.code = code) (hr : meth.sig.returnType = ret) (hlocks : meth.locks = false) {pc : Nat} {H : Heap} {ls : Array Slot} (hdg : decode code pc = .ok (.ireturn, 1)) : W p l e room_1 (s.setDrawn d0) m #[Value.ref b] below meth c H [] 649488 7152719 (lw_Z below #[Value.ref b] s) (F0 m pc ls [.int 1]) := by
  intro T hT X
  obtain ⟨fs, hret, hrun, hended, hW, hframe⟩ := X.leave (v := some (.int 1)) (hlocks := hlocks) (fun h => by rw [hr] at h; cases h)
  have hmeth' : T.vm.method? m = some meth := X.method'
  refine ⟨T.setFrames fs, ?_, .returned (some (.int 1)), hrun, hended, rfl, lw_closed hd0 ⟨_, rfl⟩ hW hframe⟩
  jvm_step X.here [X.here.top, hx, hb, hdg, hmeth', hr, ret, narrow_b1]
  (try refine ⟨rfl, ?_⟩); (try refine ⟨rfl, ?_⟩)
  first | (intro acts; rw [hret _ acts rfl rfl rfl]) | rw [hret _ _ rfl rfl rfl]
  exact Steps.refl _
/-- what holds at the law's entry: the machine, the code, the tables' words (any of lw_tbl by 'hts w (by decide +kernel)'), the script of L ints xs at the cell b, what the Statement gives of the start (any of its parts by flat_of_before) -/
def lw_At (p : Program) (s : State) (m : MethodId) (meth : Method) (c : Code) (b L : Nat) (xs : Nat → Int32) : Prop :=
  p.tables.exec = Jvm.exec ∧ c.code = code ∧ meth.sig.returnType = ret ∧ c.maxLocals = 15 ∧ s.vm.findClass R_law = some m.cls ∧ (∀ w ∈ lw_tbl, w.before #[Value.ref b] s = true) ∧ va_X b L xs s s.heap ∧ b < s.heap.size ∧ meth.locks = false ∧ (Jvm.Cond.and given_1 narrow_1).before #[Value.ref b] s = true
/-- the machine at the law's own frame, the tables, the script -/
def lx_M (p : Program) (l : Launch) (s : State) (m : MethodId) (meth : Method) (c : Code) (b L : Nat) (xs : Nat → Int32) (D : va_G) (cI cC cJ cZ cQ : ClassId) : Prop :=
  p.tables.exec = Jvm.exec ∧ c.code = cL_law ∧ c.maxLocals = 15 ∧ s.vm.findClass RL = some m.cls ∧ (∀ w ∈ wsL_law, w.before #[Value.ref b] s = true) ∧ va_X b L xs s s.heap ∧ b < s.heap.size ∧ L ≤ 260 ∧ l.stackTraces = false ∧ va_K D vwCl (kT cI cC cJ cZ cQ) s ∧ kN s ∧ kE (fun q : Nat => s.heap.size ≤ q) s s.heap ∧ kO s
theorem lx_drawn {p : Program} {l : Launch} {s : State} {m : MethodId} {meth : Method} {c : Code} {b L : Nat} {xs : Nat → Int32} {D : va_G} {cI cC cJ cZ cQ : ClassId} (h : lx_M p l s m meth c b L xs D cI cC cJ cZ cQ) (d : Drawn) : lx_M p l (s.setDrawn d) m meth c b L xs D cI cC cJ cZ cQ := by
  obtain ⟨hx, hb, hml, hown, hts, hX, hbl, hL, hst, hK, hN, hE, hO⟩ := h
  exact ⟨hx, hb, hml, hown, dr_words hts d, va_X.moved (Vm.Alike.refl _) hX, hbl, hL, hst, va_K.moved (Vm.Alike.refl _) hK, hN.same rfl, ⟨vx_Zq.moved (Vm.Alike.refl _) hE.1, vx_Zq.moved (Vm.Alike.refl _) hE.2.1, hE.2.2.1.same rfl, hE.2.2.2.1.same rfl, hE.2.2.2.2.same rfl⟩, kO.moved (Vm.Alike.refl _) hO⟩
/-- the law's world -/
def lx_W (D : va_G) (cI cC cJ cZ cQ : ClassId) (x0 a0 a1 a2 a3 a4 a5 a6 v0 v1 t0 t1 h0 u0 u1 : Nat) (pa : Nat → Nat) (rg : Nat → Option Nat) (H0 H : Heap) (locs : List Loc) : Prop := ∃ (z : StV) (nx cnt : Nat) (S : Nat → StV) (wd : Nat → Int64) (hv hk hc : Int32), oI z nx cnt S ∧ va_P D vwCl (fmB (LB cI cC cJ cZ cQ x0 a0 a1 a2 a3 a4 a5 a6 v0 v1 t0 t1 h0 u0 u1 pa rg z nx cnt S wd hv hk hc) [0, 1, 2, 3, 4, 5, 6, 7]) H ∧ va_D (fun q : Nat => H0.size ≤ q) (fmB (LB cI cC cJ cZ cQ x0 a0 a1 a2 a3 a4 a5 a6 v0 v1 t0 t1 h0 u0 u1 pa rg z nx cnt S wd hv hk hc) [0, 1, 2, 3, 4, 5, 6, 7]) ∧ va_S (fun q : Nat => H0.size ≤ q) H0 H locs
set_option maxHeartbeats 8000000 in
set_option maxRecDepth 100000 in
/-- the law's loop -/
theorem lc_loop {p : Program} {l : Launch} {e : Env} {s : State} {m : MethodId} {below : List Frame} {meth : Method} {c : Code} {b L : Nat} {xs : Nat → Int32} {D : va_G} {cI cC cJ cZ cQ : ClassId} {x0 a0 a1 a2 a3 a4 a5 a6 v0 v1 t0 t1 h0 u0 u1 : Nat} {pa : Nat → Nat} {rg : Nat → Option Nat} (hM : lx_M p l s m meth c b L xs D cI cC cJ cZ cQ) (hrg : rgOK rg pa) (hr : meth.sig.returnType = ret) (hlocks : meth.locks = false) : ∀ (n i cells slots : Nat) (d0 : Drawn) (H : Heap) (locs : List Loc) (ls : Array Slot), 51 ≤ i + n → i ≤ 50 → cells ≤ 1000 + 100 * i → slots ≤ 20000 + 1000 * i → s.drawn.sameBut d0 lw_cs → lx_W D cI cC cJ cZ cQ x0 a0 a1 a2 a3 a4 a5 a6 v0 v1 t0 t1 h0 u0 u1 pa rg s.heap H locs → lv_has ls 15 [(3, .int (nI i)), (2, .int 1), (1, .ref x0), (0, .ref b)] → W p l e room_1 (s.setDrawn d0) m #[Value.ref b] below meth c H locs cells slots (lw_Z below #[Value.ref b] s) (F0 m 69 ls []) := by
  intro n
  induction n with
  | zero =>
    intro i cells slots d0 H locs ls hn hi
    omega
  | succ n ih =>
    intro i cells slots d0 H locs ls hn hi hc0 hs0 hd0 hW hl
    obtain ⟨z, nx, cnt, S, wd, hv, hk, hc, hI, hP, hD, hS⟩ := hW
    obtain ⟨hx, hb, hml, hown, hts, hX, hbl, hL, hst, hK, hN, hE, hO⟩ := lx_drawn hM d0
    have hbA : ¬ (fun q : Nat => s.heap.size ≤ q) b := Nat.not_le.mpr hbl
    have hA : ∀ q : Nat, s.heap.size ≤ q → (fun q : Nat => s.heap.size ≤ q) q := fun _ h => h
    refine lv_iload_n hx hb dL_law_69 rfl (lv_at hl 0 rfl) ?_
    refine lv_bipush (v := nI 50) hx hb dL_law_70 (by decide) ?_
    refine lv_icmp_ge (tgt := 429) hx hb dL_law_72 (by decide) (fun _ => ?_) (fun q => ?_)
    · refine lv_iload_n hx hb dL_law_429 rfl (lv_at hl 1 rfl) ?_
      refine va_forget (fun q hq => hS.2.2 q hq) ?_
      refine W.widen (k := 649488) (n := 7152719) (by omega) (by omega) ?_
      exact lw_ret hd0 hx hb hr hlocks dL_law_430
    · have hi50 : i < 50 := by
        have q9 : ¬ nI 50 ≤ nI i := q
        rw [i_le, nI_toInt (n := 50) (by omega), nI_toInt (n := i) (by omega)] at q9
        omega
      refine lv_iload_n hx hb dL_law_75 rfl (lv_at hl 1 rfl) ?_
      refine lv_if_eq (tgt := 429) hx hb dL_law_76 (by decide) (fun h => absurd h (by decide)) (fun _ => ?_)
      refine lv_aload_n hx hb dL_law_79 rfl (lv_at hl 3 rfl) ?_
      refine lv_iload_n hx hb dL_law_80 rfl (lv_at hl 0 rfl) ?_
      refine ks_iX (As := [.ref b, .int (nI i)]) (rest := []) ⟨hx, hb, hml, hown, hts⟩ (mL_cell l b L i xs hL hi50) (cx_pre hX hbl hbA hS) (va_cwS 2 hts gL_law_L_cell rfl rfl rfl (by decide +kernel) ⟨Nat.le_of_ble_eq_true rfl, Nat.le_of_ble_eq_true rfl⟩) hP hS rfl hl.1 rfl (Nat.le_of_ble_eq_true rfl) dL_law_81 (lf_ok (by omega) (by omega)) (fun r H locs hr9 hP hS => ?_)
      obtain ⟨x, hx31, rfl⟩ := hr9
      have hx0 : x < 2147483648 := by omega
      refine lb_1 (A := (fun q : Nat => s.heap.size ≤ q)) hx hb hml hown hts hst hK hN hE hO hA hrg hP hD hS hI hi50 hx0 hl (by omega) (by omega) (fun H locs ls wd hv hk hc hb9 hx9 hh hP hD hS hl => ?_)
      refine lb_2 (A := (fun q : Nat => s.heap.size ≤ q)) hx hb hml hown hts hst hK hN hE hO hA hrg hP hD hS hI hi50 hx0 hl (by omega) (by omega) (fun cells1 slots1 H locs ls z2 nx2 cnt2 S2 wd hv hk hc hc1 hs1 hI2 hpu hP hD hS hl => ?_)
      obtain ⟨hno, hco, -⟩ := hI.2
      refine lb_3 (A := (fun q : Nat => s.heap.size ≤ q)) (zo := z) (no := nx) (co := cnt) (So := S) hx hb hml hown hts hst hK hN hE hO hA hrg hP hD hS hI2 hno hco hpu hi50 hx0 hl (by omega) (by omega) (fun H locs ls tw htw hP hD hS hl => ?_)
      refine lq_od (B0 := (LB cI cC cJ cZ cQ x0 a0 a1 a2 a3 a4 a5 a6 v0 v1 t0 t1 h0 u0 u1 pa rg z2 nx2 cnt2 S2 wd hv hk hc)) (B1 := fun u9 => LB cI cC cJ cZ cQ x0 a0 a1 a2 a3 a4 a5 a6 v0 v1 t0 t1 h0 u0 u1 pa rg u9.1 u9.2.1 u9.2.2.1 u9.2.2.2.1 u9.2.2.2.2.1 u9.2.2.2.2.2.1 u9.2.2.2.2.2.2.1 u9.2.2.2.2.2.2.2) (U := [0, 1, 2, 3, 4, 5, 6, 7]) (As := [.ref x0]) (rest := []) hd0 ⟨hx, hb, hml, hown, hts⟩ (mL_isWhole l hst D H.size cI cC cJ cZ cQ x0 a0 a1 a2 a3 a4 a5 a6 v0 v1 t0 t1 h0 u0 u1 pa rg z2 nx2 cnt2 S2 wd hv hk hc hI2 hrg) (va_cwS 1 hts gL_law_L_isWhole rfl rfl rfl (by decide +kernel) ⟨Nat.le_of_ble_eq_true rfl, Nat.le_of_ble_eq_true rfl⟩) hP hD hK hS hA hN hE hO (fun _ => rfl) rfl hl.1 rfl (Nat.le_of_ble_eq_true rfl) dL_law_300 (lf_ok (by omega) (by omega)) (fun r u H locs hr9 hP hD hS d1 hd1 => ?_)
      obtain ⟨z9, nx9, cnt9, S9, wd9, hv9, hk9, hc9⟩ := u
      have hP : va_P D vwCl (fmB (LB cI cC cJ cZ cQ x0 a0 a1 a2 a3 a4 a5 a6 v0 v1 t0 t1 h0 u0 u1 pa rg z9 nx9 cnt9 S9 wd9 hv9 hk9 hc9) [0, 1, 2, 3, 4, 5, 6, 7]) H := hP
      have hD : va_D (fun q : Nat => s.heap.size ≤ q) (fmB (LB cI cC cJ cZ cQ x0 a0 a1 a2 a3 a4 a5 a6 v0 v1 t0 t1 h0 u0 u1 pa rg z9 nx9 cnt9 S9 wd9 hv9 hk9 hc9) [0, 1, 2, 3, 4, 5, 6, 7]) := hD
      have hr9 : 1 = r ∧ z2 = z9 ∧ nx2 = nx9 ∧ cnt2 = cnt9 ∧ S2 = S9 := hr9
      obtain ⟨rfl, rfl, rfl, rfl, rfl⟩ := hr9
      obtain ⟨hx, hb, hml, hown, hts, hX, hbl, hL, hst, hK, hN, hE, hO⟩ := lx_drawn hM d1
      refine lb_4 (A := (fun q : Nat => s.heap.size ≤ q)) (zo := z) (no := nx) (co := cnt) (So := S) hx hb hml hown hts hst hK hN hE hO hA hrg hP hD hS hI2 hno hco hpu hi50 hx0 htw rfl hh hl (by omega) (by omega) (fun cells3 slots3 H locs ls z4 nx4 cnt4 S4 wd hv hk hc hc3 hs3 hI4 hP hD hS hl => ?_)
      refine lv_iinc (v := nI (i + 1)) (lv' := [(3, .int (nI (i + 1))), (2, .int 1), (1, .ref x0), (0, .ref b)]) hx hb dL_law_423 hl (k := 0) rfl (nI_add i 1) (by decide) rfl (fun ls hl => ?_)
      refine lv_goto (tgt := 69) hx hb dL_law_426 (by decide) ?_
      exact ih (i + 1) cells3 slots3 d1 H locs ls (by omega) (by omega) (by omega) (by omega) hd1 ⟨z4, nx4, cnt4, S4, wd, hv, hk, hc, hI4, hP, hD, hS⟩ hl
