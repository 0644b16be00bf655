/-! OUR OWN LAYER for refused calls: contracts that end in a throw, the world as it was -/
def kDecl (U : State) : Prop := va_Nw (.declares (Bundle.initS "java/lang/RuntimeException")) U ∧ va_Nw (.declares (Bundle.initS "java/lang/Exception")) U ∧ va_Nw (.declares (Bundle.initS Bundle.tN)) U
theorem kDecl.warm {s U : State} (hW : s.WarmedH U.vm) (h : kDecl s) : kDecl U := ⟨h.1.warmD hW, h.2.1.warmD hW, h.2.2.warmD hW⟩
theorem kDecl.same {u U : State} (e : u.vm = U.vm) (h : kDecl u) : kDecl U := ⟨h.1.same rfl e, h.2.1.same rfl e, h.2.2.same rfl e⟩
def kCst (U : State) : Prop := va_Nw (.castable "java/lang/IllegalArgumentException" "java/lang/IllegalArgumentException") U ∧ va_Nw (.castable "java/lang/IllegalStateException" "java/lang/IllegalStateException") U ∧ va_Nw (.castable "java/lang/IndexOutOfBoundsException" "java/lang/IndexOutOfBoundsException") U
theorem kCst.warm {s U : State} (hW : s.WarmedH U.vm) (h : kCst s) : kCst U := ⟨h.1.warmC hW, h.2.1.warmC hW, h.2.2.warmC hW⟩
theorem kCst.same {u U : State} (e : u.vm = U.vm) (h : kCst u) : kCst U := ⟨h.1.same rfl e, h.2.1.same rfl e, h.2.2.same rfl e⟩
def kSt1 (k : Nat) (tx : String) (U : State) : Prop := ∃ a : Nat, vk_R RX7 k tx a U
theorem kSt1.warm {k : Nat} {tx : String} {s U : State} (hW : s.WarmedH U.vm) (h : kSt1 k tx s) : kSt1 k tx U := ⟨h.choose, h.choose_spec.warm hW⟩
theorem kSt1.same {k : Nat} {tx : String} {u U : State} (e : u.vm = U.vm) (h : kSt1 k tx u) : kSt1 k tx U := ⟨h.choose, vk_R.same e.symm h.choose_spec⟩
def kStr (U : State) : Prop := kSt1 100 "there is no room for one more weight" U ∧ kSt1 108 "the only weight stays" U ∧ kSt1 177 "the buffer is full" U ∧ kSt1 191 "the buffer is no complete weight text" U ∧ kSt1 198 "no state is saved" U ∧ kSt1 244 "an argument is out of range" U ∧ kSt1 248 "there is no such number" U
theorem kStr.warm {s U : State} (hW : s.WarmedH U.vm) (h : kStr s) : kStr U := ⟨h.1.warm hW, h.2.1.warm hW, h.2.2.1.warm hW, h.2.2.2.1.warm hW, h.2.2.2.2.1.warm hW, h.2.2.2.2.2.1.warm hW, h.2.2.2.2.2.2.warm hW⟩
theorem kStr.same {u U : State} (e : u.vm = U.vm) (h : kStr u) : kStr U := ⟨h.1.same e, h.2.1.same e, h.2.2.1.same e, h.2.2.2.1.same e, h.2.2.2.2.1.same e, h.2.2.2.2.2.1.same e, h.2.2.2.2.2.2.same e⟩
/-- what a throw needs of the state -/
def kE (A : Nat → Prop) (U : State) (H : Heap) : Prop := vx_Zq Bundle.tN "UNASSIGNED_STACK" Bundle.steD A U H ∧ vx_Zq Bundle.tN "SUPPRESSED_SENTINEL" Bundle.listD A U H ∧ kDecl U ∧ kCst U ∧ kStr U
theorem kE.warm {A B : Nat → Prop} {s U : State} {H0 H : Heap} (hW : s.WarmedH U.vm) (h : kE A s H0) (hq : ∀ a : Nat, a < H0.size → ¬ A a → H[a]? = H0[a]?) (hAB : ∀ q, B q → A q) : kE B U H :=
  ⟨vx_Zq.narrow (vx_Zq.moved hW.alike (h.1.kept hq)) hAB, vx_Zq.narrow (vx_Zq.moved hW.alike (h.2.1.kept hq)) hAB, h.2.2.1.warm hW, h.2.2.2.1.warm hW, h.2.2.2.2.warm hW⟩
def kPreX (D : va_G) (sz : Nat) (W : va_W) (T : List (ClassId × FieldType)) : State → Prop := fun U => kPre D sz W T U ∧ kE (va_A W sz) U U.heap
theorem k_blindX {D : va_G} {sz : Nat} {W : va_W} {T : List (ClassId × FieldType)} {av : List Value} : FrameBlind (va_Pc av (kPreX D sz W T)) := fun a U g mk q => by
  obtain ⟨q0, ⟨q1, qP, qK, qD, qN⟩, e1, e2, e3, e4, e5⟩ := q
  exact ⟨q0, ⟨q1, qP, va_K.moved (u := U) (U := U.calling g mk a) (Vm.Alike.refl U.vm) qK, qD, qN.same rfl⟩, vx_Zq.moved (u := U) (U := U.calling g mk a) (Vm.Alike.refl U.vm) e1, vx_Zq.moved (u := U) (U := U.calling g mk a) (Vm.Alike.refl U.vm) e2, e3.same rfl, e4.same rfl, e5.same rfl⟩
/-- thrown: E, and the cells as told -/
def kXC (D : va_G) (E : String) (W1 : va_W) (A : Nat → Prop) : String → State → State → Prop := vx_X (fun _ : Unit => True) (fun E' _ t => E' = E ∧ kPost D W1 A t) A
def kNi : Array Value → State → Outcome → State → Prop := va_Qi (fun (_ : Int32) (_ : Unit) => False) (fun _ _ => True) (fun _ => False)
def kNv : Array Value → State → Outcome → State → Prop := va_Qv (fun (_ : Unit) => False) (fun _ _ => True) (fun _ => False)
theorem k_metX {l : Launch} {D : va_G} {sz : Nat} {W0 : va_W} {T : List (ClassId × FieldType)} {y : MethodName} {ws ws' : List Cond} {rm : Room} {Qc : Array Value → State → Outcome → State → Prop} {XC : (Nat → Prop) → String → State → State → Prop} {mc ms : Nat} {cc : ByteArray} {maxL : Nat} {ret : Option FieldType} {av : List Value} {own : String}
    (hy : plainName y.cls = true) (hw : ws = Cond.code y cc maxL ret :: ws') (hlen : (lg_sl av).length ≤ maxL) (ho : y.cls = own)
    (body : ∀ (p : Program) (e : Env) (s : State) (m : MethodId) (args : Array Value) (below : List Frame) (meth : Method) (c : Code) (ls : Array Slot) (A : Nat → Prop) (H : Heap) (locs : List Loc), p.tables.exec = Jvm.exec → c.code = cc → meth.sig.returnType = ret → (∀ w ∈ ws, w.before args s = true) → s.vm.findClass own = some m.cls → meth.locks = false → c.maxLocals = maxL → meth.name = y.name → H.size = sz → va_P D vwCl W0 H → va_K D vwCl T s → va_D A W0 → (∀ q : Nat, s.heap.size ≤ q → A q) → va_S A s.heap H locs → kN s → (∀ x ∈ c.exceptionTable.toList, False) → kE A s s.heap → lv_has ls maxL (lv_args 0 av) →
      W p l e rm s m args below meth c H locs 0 0 (vx_MQ below Qc (XC A) args s mc ms A) (F0 m 0 ls [])) : vx_Met l y ws rm (va_Pc av (kPreX D sz W0 T)) Qc (XC (va_A W0 sz)) mc ms (va_A W0 sz) := by
  refine vx_ofW (cc := cc) (maxL := maxL) (ret := ret) hy hw ?_
  intro p e s m args below meth c s₁ B hml ht hv
  obtain ⟨rfl, ⟨hsz, hP, hK, hD0, hN⟩, hE⟩ := hv
  subst hsz
  rw [lg_entry_eq]
  refine body p e s m _ below meth c _ (va_A W0 s.heap.size) s.heap [] B.exec B.bytes B.returns (atoms_spec (ws := ws) B.pre) ?_ B.notSynchronized hml ?_ rfl hP hK hD0.self (fun q h => Or.inr h) va_S.rf hN ht hE (lv_entry av hlen)
  · rw [← ho]
    exact findClass_of_methodNamed B.named
  · exact (name_of_methodNamed B.named B.method).1
section KX
variable {p : Program} {l : Launch} {e : Env} {R : Room} {s : State} {m : MethodId} {args : Array Value} {below : List Frame} {meth : Method} {c : Code} {H : Heap} {locs : List Loc} {Q : State → Prop}
variable {cc : ByteArray} {pc : Nat} {ls : Array Slot} {rest st0 : List Value} {D : va_G} {T : List (ClassId × FieldType)} {A : Nat → Prop} {H0 : Heap} {W0 W1 wc wr w1 : va_W} {Qc : Array Value → State → Outcome → State → Prop}
variable {y : MethodName} {bytes : ByteArray} {maxL nL n index : Nat} {ret : Option FieldType} {ws Ts : List Cond} {rm : Room} {own C E : String} {b : Nat} {As : List Value}
/-- new E(text), thrown out of the method -/
theorem k_throw {text : String} {ik is ic : Nat} (hx : p.tables.exec = Jvm.exec) (hb : c.code = cc) (hst : l.stackTraces = false) (hown : s.vm.findClass RX7 = some m.cls) (hfit : Bundle.fit E = true)
    (hk : (Cond.classLink RX7 ik E).before args s = true) (hini : (Cond.initialized E).before args s = true) (hstr : kSt1 is text s) (hg1 : ∀ w ∈ (vx_atS RX7 ic E ["java/lang/RuntimeException", "java/lang/Exception"]).filter goodWord, w.before args s = true)
    (hg2 : ∀ w ∈ (vx_atS RX7 ic E ["java/lang/RuntimeException", "java/lang/Exception"]).filter (fun w => !goodWord w), w ∈ [Cond.declares (Bundle.initS "java/lang/RuntimeException"), .declares (Bundle.initS "java/lang/Exception"), .declares (Bundle.initS Bundle.tN), .castable E E])
    (hgood : ∀ w ∈ Cond.classLink RX7 ik E :: Cond.initialized E :: vx_atS RX7 ic E ["java/lang/RuntimeException", "java/lang/Exception"], vx_ot w = true)
    (hcs : va_Nw (.castable E E) s) (hE : kE A s s.heap) (hP : va_P D vwCl W0 H) (hD : va_D A W0) (hS : va_S A s.heap H locs) (hsize : ls.size = c.maxLocals) (ht : ∀ x ∈ c.exceptionTable.toList, False) (hlocks : meth.locks = false)
    (hpost : va_P D vwCl W0 H → va_D A W0 → va_P D vwCl W1 H ∧ va_D A W1)
    (d0 : decode cc pc = .ok (.new ik, 3)) (d3 : decode cc (pc + 3) = .ok (.dup, 1)) (d4 : decode cc (pc + 4) = .ok (.ldc is, 2)) (d6 : decode cc (pc + 6) = .ok (.invokespecial ic, 3)) (d9 : decode cc (pc + 9) = .ok (.athrow, 1))
    (hR1 : 5 < R.frames) (hR2 : (rest.map fun v => v.category).sum + 82 ≤ R.locals) (hR3 : 1 ≤ R.cells) (hR4 : 6 ≤ R.slots) :
    W p l e R s m args below meth c H locs 0 0 (vx_MQ below Qc (kXC D E W1 A) args s 1 6 A) (F0 m pc ls rest) := by
  obtain ⟨sa, hstr⟩ := hstr
  refine vx_throwS (own := RX7) (cls := E) (names := ["java/lang/RuntimeException", "java/lang/Exception"]) (A := A) hx hb hst hown hfit (by decide) hk hini hstr (vx_hat hg1 hg2 (vx_c (hE.2.2.1.1.use rfl) (vx_c (hE.2.2.1.2.1.use rfl) (vx_c (hE.2.2.1.2.2.use rfl) (vx_c (hcs.use rfl) vx_n))))) hgood hE.1 hE.2.1 hS hsize d0 d3 d4 d6 d9 (fun x h => (ht x h).elim) hR1 hR2 (by omega) (by omega) hlocks ?_ hS.2.2 (Nat.le_refl _) (Nat.le_refl _)
  intro t hal hsz hkept
  obtain ⟨h1, h2⟩ := hpost hP hD
  refine ⟨(), trivial, ⟨rfl, h1.kept (fun k q hq => hkept q.1 (h1 k q hq).lt), h2⟩, ?_, ?_⟩
  · exact Nat.le_trans hS.1 hsz
  · intro q h3 h4
    rw [hkept q (Nat.lt_of_lt_of_le h3 hS.1)]
    exact hS.2.1 q h3 h4
theorem k_preSX (hN : kN s) {isC : List Nat} (hP : va_P D vwCl W0 H) (hD : va_D A W0) (hK : va_K D vwCl T s) (hS : va_S A s.heap H locs) (hA : ∀ q, s.heap.size ≤ q → A q) (hE : kE A s s.heap) (hC : isC.map (fun i => W0[i]?) = wc.map some) (hnC : va_nd isC = true) : PreS s H (va_Pc As (kPreX D H.size wc T)) As := by
  refine ⟨k_blindX, fun U hU hW => ⟨rfl, ⟨by rw [hU], ?_, va_K.moved hW.alike hK, (hD.sub isC hnC hC).weaken (fun _ _ _ _ => trivial), hN.warm hW⟩, ?_⟩⟩
  · rw [hU]
    exact hP.sub isC (k_fm isC wc hC)
  · rw [hU]
    exact hE.warm hW hS.2.1 (va_free hD hS hA isC hC)
/-- a static call that throws: so does this method -/
theorem kxs_v (S : CallFix p m c cc nL s args Ts own) (hM : vx_Met l y ws rm (va_Pc As (kPreX D H.size wc T)) kNv (kXC D E w1 (va_A wc H.size)) 1 6 (va_A wc H.size)) (cw : CallB R s args own index y bytes maxL ret ws rm 1 6 n ∧ (Cond.static y).before args s = true)
    (hP : va_P D vwCl W0 H) (hD : va_D A W0) (hK : va_K D vwCl T s) (hS : va_S A s.heap H locs) (hA : ∀ q, s.heap.size ≤ q → A q) (hN : kN s) (hE : kE A s s.heap) (ht : ∀ x ∈ c.exceptionTable.toList, False) (hlocks : meth.locks = false) (isC isR : List Nat) (hC : isC.map (fun i => W0[i]?) = wc.map some) (hR : isR.map (fun i => W0[i]?) = wr.map some) (hnC : va_nd isC = true) (hnR : va_nd isR = true) (hdis : ∀ i ∈ isR, i ∉ isC)
    (hn : As.length = n) (hsize : ls.size = nL) (hstack : st0 = As.reverse ++ rest) (hW : (rest.map fun v => v.category).sum ≤ 8) (hdg : decode cc pc = .ok (.invokestatic index, 3)) (hf : 1 ≤ R.cells ∧ 6 ≤ R.slots)
    (hpost : ∀ H1 : Heap, va_P D vwCl (wr ++ w1) H1 → va_D A (wr ++ w1) → va_P D vwCl W1 H1 ∧ va_D A W1) :
    W p l e R s m args below meth c H locs 0 0 (vx_MQ below Qc (kXC D E W1 A) args s 1 6 A) (F0 m pc ls st0) := by
  have hf2 := va_free hD hS hA isC hC
  refine vx_callv (vx_runS S hM cw (k_preSX hN hP hD hK hS hA hE hC hnC) rfl hn hsize hstack (lv_room hW) hdg (by omega)) hS (fun q _ h => h.elim) hf2 (fun q _ h => hf2 q h) (fun E' ce q9 u t H1 locs1 h1 hal _ hb hz hk hS1 hce hcv hcl => ?_) (fun u t H1 locs1 _ _ h => h.elim)
  obtain ⟨e1, hB⟩ := hb
  obtain ⟨k1, k2⟩ := k_joined hP hD hS hA hC hR hnR hdis hk hB h1
  obtain ⟨k3, k4⟩ := hpost H1 k1 k2
  subst e1
  exact vx_out (fun x h => (ht x h).elim) hlocks hce hcv hcl (fun t2 h2 _ => ⟨(), trivial, ⟨rfl, by rw [h2]; exact k3, k4⟩, hS1.F h2⟩) hS1.2.2 (Nat.le_refl _) (Nat.le_refl _)
end KX
