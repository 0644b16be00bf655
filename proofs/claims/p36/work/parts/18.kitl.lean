/-! OUR OWN LAYER for the law's own static methods, with tables of their own -/
/-- what the handlers pass by -/
def kO (U : State) : Prop := va_Nc "java/lang/IllegalArgumentException" "java/lang/IndexOutOfBoundsException" U ∧ va_Nc "java/lang/IllegalStateException" "java/lang/IndexOutOfBoundsException" U ∧ va_Nc "java/lang/IllegalStateException" "java/lang/IllegalArgumentException" U
theorem kO.moved {u U : State} (h : u.vm.Alike U.vm) (k : kO u) : kO U := ⟨va_Nc.moved h k.1, va_Nc.moved h k.2.1, va_Nc.moved h k.2.2⟩
theorem k_ofWH {l : Launch} {y : MethodName} {ws ws' : List Cond} {rm : Room} {Pc : Array Value → State → Prop} {Qc : Array Value → State → Outcome → State → Prop} {mc ms : Nat} {free : Addr → Prop} {cc : ByteArray} {maxL : Nat} {ret : Option FieldType} {hh : List (Nat × Nat × Nat × Nat)}
    (hy : plainName y.cls = true) (hw : ws = Cond.codeWith y cc maxL ret hh :: ws')
    (body : ∀ p e s m args below meth c s₁, BodyLoose p l y (headSpec ws rm) cc maxL ret e s m args below meth c s₁ → c.maxLocals = maxL → Pc args s →
      W p l e (headSpec ws rm).room s m args below meth c s.heap [] 0 0 (MQ below Qc args s mc ms free) (entryFrame m args maxL)) : Met l y ws rm Pc Qc mc ms free := by
  refine MetFree.of_bodyS (code := cc) (maxLocals := maxL) (ret := ret) hy ?_ ?_
  · intro args s m h hn
    obtain ⟨m9, meth, c, hn9, h1, h2, h3, h4, -, h5, h6, -⟩ := Cond.codeWith_spec (atoms_spec (ws := ws) h _ (by rw [hw]; exact List.mem_cons_self))
    cases hn.symm.trans hn9
    exact ⟨meth, c, h1, h2, h3, h4, h5, h6⟩
  · intro p e s m args below meth c s₁ B hml hP _
    obtain ⟨t, a1, o, b1, b2, b3⟩ := body p e s m args below meth c s₁ B hml hP s₁ (by rw [B.state]; rfl) (Stand.of_body B)
    exact ⟨t, o, a1, b1, b2, ⟨b3.1, b3.2⟩⟩
theorem k_metL {l : Launch} {D : va_G} {sz : Nat} {W0 : va_W} {T : List (ClassId × FieldType)} {y : MethodName} {ws ws' : List Cond} {rm : Room} {Qf : (Nat → Prop) → Array Value → State → Outcome → State → Prop} {mc ms : Nat} {cc : ByteArray} {maxL : Nat} {ret : Option FieldType} {av : List Value} {own : String} {hh : List (Nat × Nat × Nat × Nat)}
    (hy : plainName y.cls = true) (hw : ws = Cond.codeWith y cc maxL ret hh :: ws') (hlen : (lg_sl av).length ≤ maxL) (ho : y.cls = own)
    (body : ∀ (p : Program) (e : Env) (s : State) (m : MethodId) (args : Array Value) (below : List Frame) (meth : Method) (c : Code) (ls : Array Slot) (A : Nat → Prop) (H : Heap) (locs : List Loc), p.tables.exec = Jvm.exec → c.code = cc → meth.sig.returnType = ret → (∀ w ∈ ws, w.before args s = true) → s.vm.findClass own = some m.cls → meth.locks = false → c.maxLocals = maxL → H.size = sz → va_P D vwCl W0 H → va_K D vwCl T s → va_D A W0 → (∀ q : Nat, s.heap.size ≤ q → A q) → va_S A s.heap H locs → kN s → c.exceptionTable.toList = tableOf hh → lv_has ls maxL (lv_args 0 av) →
      W p l e rm s m args below meth c H locs 0 0 (MQ below (Qf A) args s mc ms A) (F0 m 0 ls [])) : Met l y ws rm (va_Pc av (kPre D sz W0 T)) (Qf (va_A W0 sz)) mc ms (va_A W0 sz) := by
  refine k_ofWH (cc := cc) (maxL := maxL) (ret := ret) (hh := hh) hy hw ?_
  intro p e s m args below meth c s₁ B hml hv
  have ht := vx_table (x := y) B (atoms_spec (ws := ws) B.pre _ (by rw [hw]; exact List.mem_cons_self))
  obtain ⟨rfl, hsz, hP, hK, hD0, hN⟩ := hv
  subst hsz
  rw [lg_entry_eq]
  refine body p e s m _ below meth c _ (va_A W0 s.heap.size) s.heap [] B.exec B.bytes B.returns (atoms_spec (ws := ws) B.pre) ?_ B.notSynchronized hml rfl hP hK hD0.self (fun q h => Or.inr h) va_S.rf hN ht (lv_entry av hlen)
  rw [← ho]
  exact findClass_of_methodNamed B.named
theorem k_metLX {l : Launch} {D : va_G} {sz : Nat} {W0 : va_W} {T : List (ClassId × FieldType)} {y : MethodName} {ws ws' : List Cond} {rm : Room} {Qf : (Nat → Prop) → Array Value → State → Outcome → State → Prop} {mc ms : Nat} {cc : ByteArray} {maxL : Nat} {ret : Option FieldType} {av : List Value} {own : String} {hh : List (Nat × Nat × Nat × Nat)}
    (hy : plainName y.cls = true) (hw : ws = Cond.codeWith y cc maxL ret hh :: ws') (hlen : (lg_sl av).length ≤ maxL) (ho : y.cls = own)
    (body : ∀ (p : Program) (e : Env) (s : State) (m : MethodId) (args : Array Value) (below : List Frame) (meth : Method) (c : Code) (ls : Array Slot) (A : Nat → Prop) (H : Heap) (locs : List Loc), p.tables.exec = Jvm.exec → c.code = cc → meth.sig.returnType = ret → (∀ w ∈ ws, w.before args s = true) → s.vm.findClass own = some m.cls → meth.locks = false → c.maxLocals = maxL → H.size = sz → va_P D vwCl W0 H → va_K D vwCl T s → va_D A W0 → (∀ q : Nat, s.heap.size ≤ q → A q) → va_S A s.heap H locs → kN s → c.exceptionTable.toList = tableOf hh → kE A s s.heap → kO s → lv_has ls maxL (lv_args 0 av) →
      W p l e rm s m args below meth c H locs 0 0 (MQ below (Qf A) args s mc ms A) (F0 m 0 ls [])) : Met l y ws rm (va_Pc av (fun U => kPreX D sz W0 T U ∧ kO U)) (Qf (va_A W0 sz)) mc ms (va_A W0 sz) := by
  refine k_ofWH (cc := cc) (maxL := maxL) (ret := ret) (hh := hh) hy hw ?_
  intro p e s m args below meth c s₁ B hml hv
  have ht := vx_table (x := y) B (atoms_spec (ws := ws) B.pre _ (by rw [hw]; exact List.mem_cons_self))
  obtain ⟨rfl, ⟨⟨hsz, hP, hK, hD0, hN⟩, hE⟩, hO⟩ := hv
  subst hsz
  rw [lg_entry_eq]
  refine body p e s m _ below meth c _ (va_A W0 s.heap.size) s.heap [] B.exec B.bytes B.returns (atoms_spec (ws := ws) B.pre) ?_ B.notSynchronized hml rfl hP hK hD0.self (fun q h => Or.inr h) va_S.rf hN ht hE hO (lv_entry av hlen)
  rw [← ho]
  exact findClass_of_methodNamed B.named
section KL
variable {p : Program} {l : Launch} {e : Env} {R : Room} {s : State} {m : MethodId} {args : Array Value} {below : List Frame} {meth : Method} {c : Code} {H : Heap} {locs : List Loc} {Q : State → Prop}
variable {cc : ByteArray} {pc : Nat} {ls : Array Slot} {rest st0 : List Value} {D : va_G} {T : List (ClassId × FieldType)} {A : Nat → Prop} {W0 wc wr w1 : va_W}
variable {y : MethodName} {bytes : ByteArray} {maxL nL n index : Nat} {ret : Option FieldType} {ws Ts : List Cond} {rm : Room} {own C E name : String} {b : Nat} {As : List Value}
theorem k_preVX (hN : kN s) {q0 ci : Nat} {q : vw_C} {fs : List Value} {isC : List Nat} (hP : va_P D vwCl W0 H) (hD : va_D A W0) (hK : va_K D vwCl T s) (hS : va_S A s.heap H locs) (hA : ∀ q, s.heap.size ≤ q → A q) (hE : kE A s s.heap) (hC : isC.map (fun i => W0[i]?) = wc.map some) (hnC : va_nd isC = true) (hcl : vwCl[ci]? = some q) (hC2 : q.1 = C) (hq : W0[q0]? = some (b, .inr (ci, fs))) : PreV s H C b (va_Pc (.ref b :: As) (kPreX D H.size wc T)) As := by
  subst hC2
  exact ⟨k_blindX, va_recv hK hP hcl hq, (k_preSX (As := .ref b :: As) hN hP hD hK hS hA hE hC hnC).2⟩
/-- a virtual call that throws E, caught by the row x of this method's table -/
theorem kxv_l (S : CallFix p m c cc nL s args Ts own) (hM : vx_Met l y ws rm (va_Pc (.ref b :: As) (kPreX D H.size wc T)) kNi (kXC D E w1 (va_A wc H.size)) 1 6 (va_A wc H.size)) (cw : CallW R s args own C index y bytes maxL ret ws rm 1 6 n)
    (hP : va_P D vwCl W0 H) (hD : va_D A W0) (hK : va_K D vwCl T s) (hS : va_S A s.heap H locs) (hA : ∀ q, s.heap.size ≤ q → A q) (hN : kN s) (hE : kE A s s.heap) (hown : s.vm.findClass own = some m.cls) (isC isR : List Nat) (hC : isC.map (fun i => W0[i]?) = wc.map some) (hR : isR.map (fun i => W0[i]?) = wr.map some) (hnC : va_nd isC = true) (hnR : va_nd isR = true) (hdis : ∀ i ∈ isR, i ∉ isC)
    (q0 ci : Nat) {q : vw_C} {fs : List Value} (hcl : vwCl[ci]? = some q) (hC2 : q.1 = C) (hq : W0[q0]? = some (b, .inr (ci, fs))) (hn : As.length = n) (hsize : ls.size = nL) (hstack : st0 = As.reverse ++ .ref b :: rest) (hW : (rest.map fun v => v.category).sum ≤ 8) (hdg : decode cc pc = .ok (.invokevirtual index, 3)) (hf : 1 ≤ R.cells ∧ 6 ≤ R.slots)
    (pre : List ExceptionTableEntry) (x : ExceptionTableEntry) (suf : List ExceptionTableEntry) (hsplit : c.exceptionTable.toList = pre ++ x :: suf)
    (hpass : ∀ z ∈ pre, covers z pc = false ∨ (z.catchType ≠ 0 ∧ ∃ nm : String, (Cond.classLink own z.catchType nm).before args s = true ∧ va_Nc E nm s)) (hx : covers x pc = true) (h0 : x.catchType ≠ 0)
    (hlink : (Cond.classLink own x.catchType E).before args s = true) (hcast : va_Nw (.castable E E) s)
    (kk : ∀ (q9 : Nat) (H1 : Heap) (locs1 : List Loc), va_P D vwCl (wr ++ w1) H1 → va_D A (wr ++ w1) → va_S A s.heap H1 locs1 → W p l e R s m args below meth c H1 locs1 1 6 Q (F0 m x.handlerPc ls [.ref q9])) : W p l e R s m args below meth c H locs 0 0 Q (F0 m pc ls st0) := by
  have hf2 := va_free hD hS hA isC hC
  refine vx_calli (vx_runV S hM cw (k_preVX hN hP hD hK hS hA hE hC hnC hcl hC2 hq) rfl hn hsize hstack (lv_room hW) hdg (by omega)) hS (fun q _ h => h.elim) hf2 (fun q _ h => hf2 q h) (fun E' ce q9 u t H1 locs1 h1 hal _ hb hz hk hS1 hce hcv hcl9 => ?_) (fun r u t H1 locs1 _ _ h => h.elim)
  obtain ⟨e1, hB⟩ := hb
  obtain ⟨k1, k2⟩ := k_joined hP hD hS hA hC hR hnR hdis hk hB h1
  subst e1
  exact vx_catch hown pre x suf hsplit hpass hx h0 hlink (hcast.use rfl) hce hcv hcl9 (kk q9 H1 locs1 k1 k2 hS1)
end KL
