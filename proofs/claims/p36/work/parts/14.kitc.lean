/-! OUR OWN LAYER for constructors -/
/-- the weights at first -/
def atF : Nat → Int32 := fun k => if k = 0 then 128 else if k = 1 then 64 else if k = 2 then 32 else if k = 3 then 16 else if k = 4 then 8 else if k = 5 then 4 else if k = 6 then 2 else if k = 7 then 1 else 0
abbrev zIni : StV := (0, 8, 0, 0, 0, 8, 0, atF, (fun _ => 0), (fun _ => 0), (fun _ => 0))
theorem atF_cpy (j : Nat) : va_cpy atF (fun _ => (0 : Int32)) (0 : Int32).toNatClampNeg (0 : Int32).toNatClampNeg (8 : Int32).toNatClampNeg j = atF j := by
  show (if 0 ≤ j ∧ j < 0 + 8 then atF (0 + (j - 0)) else 0) = atF j
  by_cases h : j < 8
  · rw [if_pos ⟨by omega, by omega⟩]
    congr 1
    omega
  · rw [if_neg (fun q => h (by omega))]
    unfold atF
    rw [if_neg (by omega), if_neg (by omega), if_neg (by omega), if_neg (by omega), if_neg (by omega), if_neg (by omega), if_neg (by omega), if_neg (by omega)]
/-- the table of the first weights -/
def kZ (A : Nat → Prop) (U : State) (H : Heap) : Prop := ∃ t : Nat, va_Z RX6 "AT_FIRST" "[I" (.ref t) A U H ∧ va_X t 8 atF U H ∧ t < H.size ∧ ¬ A t
theorem kZ.warm {A B : Nat → Prop} {s U : State} {H0 H : Heap} (hW : s.WarmedH U.vm) (h : kZ A s H0) (hz : H0.size ≤ H.size) (hq : ∀ a : Nat, a < H0.size → ¬ A a → H[a]? = H0[a]?) (hAB : ∀ q, B q → A q) : kZ B U H := by
  obtain ⟨t, h1, h2, h3, h4⟩ := h
  exact ⟨t, va_Z.narrow (va_Z.moved hW.alike (h1.kept hq)) hAB, va_X.moved hW.alike (h2.kept (hq t h3 h4)), Nat.lt_of_lt_of_le h3 hz, fun q => h4 (hAB t q)⟩
def kPreZ (D : va_G) (sz : Nat) (W : va_W) (T : List (ClassId × FieldType)) : State → Prop := fun U => kPre D sz W T U ∧ kZ (va_A W sz) U U.heap ∧ va_AO RX2 U
theorem k_blindZ {D : va_G} {sz : Nat} {W : va_W} {T : List (ClassId × FieldType)} {av : List Value} : FrameBlind (va_Pc av (kPreZ D sz W T)) := fun a U g mk q => by
  obtain ⟨q0, ⟨q1, qP, qK, qD, qN⟩, ⟨t, e1, e2, e3, e4⟩, e5⟩ := q
  exact ⟨q0, ⟨q1, qP, va_K.moved (u := U) (U := U.calling g mk a) (Vm.Alike.refl U.vm) qK, qD, qN.same rfl⟩, ⟨t, va_Z.moved (u := U) (U := U.calling g mk a) (Vm.Alike.refl U.vm) e1, va_X.moved (u := U) (U := U.calling g mk a) (Vm.Alike.refl U.vm) e2, e3, e4⟩, va_AO.moved (u := U) (U := U.calling g mk a) (Vm.Alike.refl U.vm) e5⟩
def kQc {σ : Type} (D : va_G) (W1 : σ → va_W) (A : Nat → Prop) : Array Value → State → Outcome → State → Prop := va_Qv (fun _ : σ => True) (fun u => kPost D (W1 u) A) A
theorem k_metZ {l : Launch} {D : va_G} {sz : Nat} {W0 : va_W} {T : List (ClassId × FieldType)} {y : MethodName} {ws ws' : List Cond} {rm : Room} {Qf : (Nat → Prop) → Array Value → State → Outcome → State → Prop} {mc ms : Nat} {cc : ByteArray} {maxL : Nat} {ret : Option FieldType} {av : List Value} {own : String}
    (hy : plainName y.cls = true) (hw : ws = Cond.code y cc maxL ret :: ws') (hlen : (lg_sl av).length ≤ maxL) (ho : y.cls = own)
    (body : ∀ (p : Program) (e : Env) (s : State) (m : MethodId) (args : Array Value) (below : List Frame) (meth : Method) (c : Code) (ls : Array Slot) (A : Nat → Prop) (H : Heap) (locs : List Loc), p.tables.exec = Jvm.exec → c.code = cc → meth.sig.returnType = ret → (∀ w ∈ ws, w.before args s = true) → s.vm.findClass own = some m.cls → meth.locks = false → c.maxLocals = maxL → meth.name = y.name → H.size = sz → va_P D vwCl W0 H → va_K D vwCl T s → va_D A W0 → (∀ q : Nat, s.heap.size ≤ q → A q) → va_S A s.heap H locs → kN s → kZ A s s.heap → va_AO RX2 s → lv_has ls maxL (lv_args 0 av) →
      W p l e rm s m args below meth c H locs 0 0 (MQ below (Qf A) args s mc ms A) (F0 m 0 ls [])) : Met l y ws rm (va_Pc av (kPreZ D sz W0 T)) (Qf (va_A W0 sz)) mc ms (va_A W0 sz) := by
  refine Met.ofW (cc := cc) (maxL := maxL) (ret := ret) hy hw ?_
  intro p e s m args below meth c s₁ B hml hv
  obtain ⟨rfl, ⟨hsz, hP, hK, hD0, hN⟩, hZ, hO⟩ := hv
  subst hsz
  rw [lg_entry_eq]
  refine body p e s m _ below meth c _ (va_A W0 s.heap.size) s.heap [] B.exec B.bytes B.returns (atoms_spec (ws := ws) B.pre) ?_ B.notSynchronized hml ?_ rfl hP hK hD0.self (fun q h => Or.inr h) va_S.rf hN hZ hO (lv_entry av hlen)
  · rw [← ho]
    exact findClass_of_methodNamed B.named
  · exact (name_of_methodNamed B.named B.method).1
section KC2
variable {p : Program} {l : Launch} {e : Env} {R : Room} {s : State} {m : MethodId} {args : Array Value} {below : List Frame} {meth : Method} {c : Code} {H : Heap} {locs : List Loc} {cells slots : Nat} {Q : State → Prop}
variable {cc : ByteArray} {pc : Nat} {ls : Array Slot} {rest st0 : List Value} {D : va_G} {T : List (ClassId × FieldType)} {A : Nat → Prop} {W0 wc wr : va_W}
variable {y : MethodName} {bytes : ByteArray} {maxL nL n index mc ms : Nat} {ws Ts : List Cond} {rm : Room} {own : String} {b : Nat} {As : List Value}
theorem k_preZ (hN : kN s) {isC : List Nat} (hP : va_P D vwCl W0 H) (hD : va_D A W0) (hK : va_K D vwCl T s) (hS : va_S A s.heap H locs) (hA : ∀ q, s.heap.size ≤ q → A q) (hZ : kZ A s s.heap) (hO : va_AO RX2 s) (hC : isC.map (fun i => W0[i]?) = wc.map some) (hnC : va_nd isC = true) : PreS s H (va_Pc As (kPreZ D H.size wc T)) As := by
  refine ⟨k_blindZ, fun U hU hW => ⟨rfl, ⟨by rw [hU], ?_, va_K.moved hW.alike hK, (hD.sub isC hnC hC).weaken (fun _ _ _ _ => trivial), hN.warm hW⟩, ?_, va_AO.moved hW.alike hO⟩⟩
  · rw [hU]
    exact hP.sub isC (k_fm isC wc hC)
  · rw [hU]
    exact hZ.warm hW hS.1 hS.2.1 (va_free hD hS hA isC hC)
/-- a constructor called -/
theorem kci {σ : Type} {w1 : σ → va_W} (S : CallFix p m c cc nL s args Ts own) (hM : Met l y ws rm (va_Pc (.ref b :: As) (kPreZ D H.size wc T)) (kQc D w1 (va_A wc H.size)) mc ms (va_A wc H.size)) (cw : CallB R s args own index y bytes maxL none ws rm mc ms n ∧ y.name = "<init>" ∧ (Cond.instanceMethod y).before args s = true)
    (hP : va_P D vwCl W0 H) (hD : va_D A W0) (hK : va_K D vwCl T s) (hS : va_S A s.heap H locs) (hA : ∀ q, s.heap.size ≤ q → A q) (hN : kN s) (hZ : kZ A s s.heap) (hO : va_AO RX2 s) (isC isR : List Nat) (hC : isC.map (fun i => W0[i]?) = wc.map some) (hR : isR.map (fun i => W0[i]?) = wr.map some) (hnC : va_nd isC = true) (hnR : va_nd isR = true) (hdis : ∀ i ∈ isR, i ∉ isC)
    (hn : As.length = n) (hsize : ls.size = nL) (hstack : st0 = As.reverse ++ .ref b :: rest) (hW : (rest.map fun v => v.category).sum ≤ 8) (hdg : decode cc pc = .ok (.invokespecial index, 3)) (hf : cells + mc ≤ R.cells ∧ slots + ms ≤ R.slots)
    (kk : ∀ (u : σ) (H1 : Heap) (locs1 : List Loc), va_P D vwCl (wr ++ w1 u) H1 → va_D A (wr ++ w1 u) → va_S A s.heap H1 locs1 → W p l e R s m args below meth c H1 locs1 (cells + mc) (slots + ms) Q (F0 m (pc + 3) ls rest)) : W p l e R s m args below meth c H locs cells slots Q (F0 m pc ls st0) := by
  have hf2 := va_free hD hS hA isC hC
  refine va_callv (va_runI S hM cw (k_preZ hN hP hD hK hS hA hZ hO hC hnC) rfl hn hsize hstack (lv_room hW) hdg hf) hS (fun q _ h => hf2 q h) hf2 (fun u t H1 locs1 ht hvm _ hB hz hk hS1 => ?_)
  obtain ⟨h1, h2⟩ := k_joined hP hD hS hA hC hR hnR hdis hk hB ht
  exact kk u H1 locs1 h1 h2 hS1
/-- .. a private one, of the nest -/
theorem kcn {σ : Type} {w1 : σ → va_W} {host : String} (S : CallFix p m c cc nL s args Ts own) (hM : Met l y ws rm (va_Pc (.ref b :: As) (kPreZ D H.size wc T)) (kQc D w1 (va_A wc H.size)) mc ms (va_A wc H.size)) (cw : va_CN R s args own index y host bytes maxL none ws rm mc ms n ∧ y.name = "<init>" ∧ (Cond.instanceMethod y).before args s = true)
    (hP : va_P D vwCl W0 H) (hD : va_D A W0) (hK : va_K D vwCl T s) (hS : va_S A s.heap H locs) (hA : ∀ q, s.heap.size ≤ q → A q) (hN : kN s) (hZ : kZ A s s.heap) (hO : va_AO RX2 s) (isC isR : List Nat) (hC : isC.map (fun i => W0[i]?) = wc.map some) (hR : isR.map (fun i => W0[i]?) = wr.map some) (hnC : va_nd isC = true) (hnR : va_nd isR = true) (hdis : ∀ i ∈ isR, i ∉ isC)
    (hn : As.length = n) (hsize : ls.size = nL) (hstack : st0 = As.reverse ++ .ref b :: rest) (hW : (rest.map fun v => v.category).sum ≤ 8) (hdg : decode cc pc = .ok (.invokespecial index, 3)) (hf : cells + mc ≤ R.cells ∧ slots + ms ≤ R.slots)
    (kk : ∀ (u : σ) (H1 : Heap) (locs1 : List Loc), va_P D vwCl (wr ++ w1 u) H1 → va_D A (wr ++ w1 u) → va_S A s.heap H1 locs1 → W p l e R s m args below meth c H1 locs1 (cells + mc) (slots + ms) Q (F0 m (pc + 3) ls rest)) : W p l e R s m args below meth c H locs cells slots Q (F0 m pc ls st0) := by
  have hf2 := va_free hD hS hA isC hC
  refine va_callv (va_runIN S hM cw (k_preZ hN hP hD hK hS hA hZ hO hC hnC) rfl hn hsize hstack (lv_room hW) hdg hf) hS (fun q _ h => hf2 q h) hf2 (fun u t H1 locs1 ht hvm _ hB hz hk hS1 => ?_)
  obtain ⟨h1, h2⟩ := k_joined hP hD hS hA hC hR hnR hdis hk hB ht
  exact kk u H1 locs1 h1 h2 hS1
/-- an array of a kind whose class is known -/
theorem k_newa {cT : ClassId} (hexec : p.tables.exec = Jvm.exec) (hb : c.code = cc) {atype : ArrayType} (harr : (Cond.arrayClass (newarray.typeOf atype)).before args s = true) {ty : FieldType} (hty : newarray.typeOf atype = ty) (hpr : refKind ty = false) (hK : va_K D vwCl T s) (t0 : Nat) (ht0 : T[t0]? = some (cT, ty)) (hP : va_P D vwCl W0 H) (hD : va_D A W0) (hS : va_S A s.heap H locs) (hA : ∀ q, s.heap.size ≤ q → A q)
    {n : Int32} {N' : Nat} {a0 : vp_A} (ha : ∀ cA : ClassId, vp_cell cA a0 = arrV cA N' (fun _ => defaultValue ty)) (hn : ¬ n < 0) (hN : n.toNatClampNeg = N') (hbytes : N' * componentBytes ty ≤ 536870912) (hcells : cells + 1 ≤ R.cells) (hslots : slots + N' ≤ R.slots) (hdg : decode cc pc = .ok (.newarray atype, 2))
    (kk : ∀ (q : Nat) (H1 : Heap), va_P D vwCl (W0 ++ [(q, .inl (cT, a0))]) H1 → va_D A (W0 ++ [(q, .inl (cT, a0))]) → va_S A s.heap H1 locs →
      W p l e R s m args below meth c H1 locs (cells + 1) (slots + N') Q (F0 m (pc + 2) ls (.ref q :: rest))) : W p l e R s m args below meth c H locs cells slots Q (F0 m pc ls (.int n :: rest)) := by
  refine va_newa hexec hb harr hty hK hP hD hS hA ha hn hN hbytes hcells hslots hdg (fun q cA H1 hK1 hP1 hD1 hS1 => ?_)
  have h1 := (hK.2 t0 _ ht0).2
  have h2 := (hK1.2 T.length (cA, ty) (by rw [List.getElem?_append_right (Nat.le_refl _), Nat.sub_self]; rfl)).2
  have e : cA = cT := by
    cases ty with
    | object C => cases hpr
    | _ => exact Option.some.inj (h2.symm.trans h1)
  subst e
  exact kk q H1 hP1 hD1 hS1
/-- .. of objects -/
theorem k_newq {cT : ClassId} {C : String} (hexec : p.tables.exec = Jvm.exec) (hb : c.code = cc) {index : Nat} (hown : s.vm.findClass own = some m.cls) (hclink : (Cond.classLink own index C).before args s = true) (hover : va_AO C s) (hK : va_K D vwCl T s) (t0 : Nat) (ht0 : T[t0]? = some (cT, .object C)) (hP : va_P D vwCl W0 H) (hD : va_D A W0) (hS : va_S A s.heap H locs) (hA : ∀ q, s.heap.size ≤ q → A q)
    {n : Int32} {N' : Nat} (hn : ¬ n < 0) (hN : n.toNatClampNeg = N') (hbytes : N' * 4 ≤ 536870912) (hcells : cells + 1 ≤ R.cells) (hslots : slots + N' ≤ R.slots) (hdg : decode cc pc = .ok (.anewarray index, 3))
    (kk : ∀ (q : Nat) (H1 : Heap), va_P D vwCl (W0 ++ [(q, .inl (cT, N', .inr (.inr (.inr (.inr (fun _ => none))))))]) H1 → va_D A (W0 ++ [(q, .inl (cT, N', .inr (.inr (.inr (.inr (fun _ => none))))))]) → va_S A s.heap H1 locs →
      W p l e R s m args below meth c H1 locs (cells + 1) (slots + N') Q (F0 m (pc + 3) ls (.ref q :: rest))) : W p l e R s m args below meth c H locs cells slots Q (F0 m pc ls (.int n :: rest)) := by
  refine va_newq hexec hb hown hclink hover hK hP hD hS hA hn hN hbytes hcells hslots hdg (fun q cA H1 hK1 hP1 hD1 hS1 => ?_)
  obtain ⟨kA, comp, -, -, -, h1⟩ := (hK.2 t0 _ ht0).2
  obtain ⟨kB, comp2, -, -, -, h2⟩ := (hK1.2 T.length (cA, .object C) (by rw [List.getElem?_append_right (Nat.le_refl _), Nat.sub_self]; rfl)).2
  have e : cA = cT := Option.some.inj (h2.symm.trans h1)
  subst e
  exact kk q H1 hP1 hD1 hS1
theorem kr_c {σ : Type} {w1 : σ → va_W} {u : σ} (hexec : p.tables.exec = Jvm.exec) (hb : c.code = cc) (hr : meth.sig.returnType = none) (hlocks : meth.locks = false) (hP : va_P D vwCl (w1 u) H) (hD : va_D A (w1 u)) (hS : va_S A s.heap H locs) (hdg : decode cc pc = .ok (.return_, 1)) : W p l e R s m args below meth c H locs cells slots (MQ below (kQc D w1 A) args s cells slots A) (F0 m pc ls []) :=
  W.vret hexec hb hr (fun t ht hW => ⟨⟨u, rfl, trivial, And.intro (by rw [ht]; exact hP) hD⟩, hS.F ht⟩) hS.2.2 hdg
/-- the table's length -/
theorem k_zlen (hexec : p.tables.exec = Jvm.exec) (hb : c.code = cc) {t : Nat} (hX : va_X t 8 atF s s.heap) (hA : ¬ A t) (hS : va_S A s.heap H locs) (hdg : decode cc pc = .ok (.arraylength, 1)) (kk : W p l e R s m args below meth c H locs cells slots Q (F0 m (pc + 1) ls (.int 8 :: rest))) : W p l e R s m args below meth c H locs cells slots Q (F0 m pc ls (.ref t :: rest)) := by
  obtain ⟨cell, h1, h2, h3, h4, h5⟩ := hX
  exact va_tlen (ty := .int) (N := 8) (f := fun j => .int (atF j)) hexec hb ⟨cell, h1, h2, h3, by omega, by rw [h4], h5, hA⟩ hS rfl hdg kk
end KC2
