/-! OUR OWN LAYER: contracts in one form, calls with the frame rule in one row, array rows by natural places -/
abbrev StV : Type := Int32 × Int32 × Int32 × Int32 × Int32 × Nat × Nat × (Nat → Int32) × (Nat → Int32) × (Nat → Int32) × (Nat → Int32)
abbrev kT (cI cC cJ cZ cQ : ClassId) : List (ClassId × FieldType) := [(cI, .int), (cC, .char), (cJ, .long), (cJ, .long), (cQ, .object RX2)]
/-- links of private members across the nest -/
def kN (U : State) : Prop := va_Nw (.methodLinkNest RX7 9 yX2_init RX7) U ∧ va_Nw (.methodLinkNest RX2 34 yX0_init RX7) U ∧ va_Nw (.methodLinkNest RX1 24 yX2_init RX7) U ∧ va_Nw (.methodLinkNest RX7 25 yX5_init RX7) U ∧ va_Nw (.methodLinkNest RX7 32 yX4_init RX7) U ∧ va_Nw (.methodLinkNest RX7 39 yX3_init RX7) U ∧ va_Nw (.methodLinkNest RX4 26 yX7_afterHoldTick RX7) U ∧ va_Nw (.methodLinkNest RX4 34 yX7_hasBit RX7) U
theorem kN.warm {s U : State} (hW : s.WarmedH U.vm) (h : kN s) : kN U := by
  obtain ⟨h0, h1, h2, h3, h4, h5, h6, h7⟩ := h
  exact ⟨h0.warmM hW, h1.warmM hW, h2.warmM hW, h3.warmM hW, h4.warmM hW, h5.warmM hW, h6.warmM hW, h7.warmM hW⟩
theorem kN.same {u U : State} (e : u.vm = U.vm) (h : kN u) : kN U := by
  obtain ⟨h0, h1, h2, h3, h4, h5, h6, h7⟩ := h
  exact ⟨h0.same rfl e, h1.same rfl e, h2.same rfl e, h3.same rfl e, h4.same rfl e, h5.same rfl e, h6.same rfl e, h7.same rfl e⟩
def kPre (D : va_G) (sz : Nat) (W : va_W) (T : List (ClassId × FieldType)) : State → Prop := fun U => U.heap.size = sz ∧ va_P D vwCl W U.heap ∧ va_K D vwCl T U ∧ va_D (fun _ => True) W ∧ kN U
def kPost (D : va_G) (W : va_W) (A : Nat → Prop) : State → Prop := fun t => va_P D vwCl W t.heap ∧ va_D A W
def kQi (D : va_G) (res : Int32) (W1 : va_W) (A : Nat → Prop) : Array Value → State → Outcome → State → Prop := va_Qi (fun (r : Int32) (_ : Unit) => r = res) (fun _ => kPost D W1 A) A
def kQl (D : va_G) (res : Int64) (W1 : va_W) (A : Nat → Prop) : Array Value → State → Outcome → State → Prop := va_Ql (fun (r : Int64) (_ : Unit) => r = res) (fun _ => kPost D W1 A) A
def kQv (D : va_G) (W1 : va_W) (A : Nat → Prop) : Array Value → State → Outcome → State → Prop := va_Qv (fun (_ : Unit) => True) (fun _ => kPost D W1 A) A
def kQd (D : va_G) (P : UInt64 → Prop) (W1 : va_W) (A : Nat → Prop) : Array Value → State → Outcome → State → Prop := va_Qd (fun (r : UInt64) (_ : Unit) => P r) (fun _ => kPost D W1 A) A
/-- a method that neither reads nor writes a cell -/
def kPi (res : Int32) : Array Value → State → Outcome → State → Prop := va_Qi (fun (r : Int32) (_ : Unit) => r = res) (fun _ _ => True) (fun _ => False)
def kPl (res : Int64) : Array Value → State → Outcome → State → Prop := va_Ql (fun (r : Int64) (_ : Unit) => r = res) (fun _ _ => True) (fun _ => False)
def kPv : Array Value → State → Outcome → State → Prop := va_Qv (fun (_ : Unit) => True) (fun _ _ => True) (fun _ => False)
def kQix {σ : Type} (D : va_G) (res : Int32) (W1 : σ → va_W) (A : Nat → Prop) : Array Value → State → Outcome → State → Prop := va_Qi (fun (r : Int32) (_ : σ) => r = res) (fun u => kPost D (W1 u) A) A
def kQlx {σ : Type} (D : va_G) (res : Int64) (W1 : σ → va_W) (A : Nat → Prop) : Array Value → State → Outcome → State → Prop := va_Ql (fun (r : Int64) (_ : σ) => r = res) (fun u => kPost D (W1 u) A) A
theorem k_blind {D : va_G} {sz : Nat} {W : va_W} {T : List (ClassId × FieldType)} {av : List Value} : FrameBlind (va_Pc av (kPre D sz W T)) := fun a U g mk q => by
  obtain ⟨q0, q1, qP, qK, qD, qN⟩ := q
  exact ⟨q0, q1, qP, va_K.moved (u := U) (U := U.calling g mk a) (Vm.Alike.refl U.vm) qK, qD, qN.same rfl⟩
theorem k_inc (k : Nat) : nI k + Int32.ofInt 1 = nI (k + 1) := nI_1 k
theorem k_dec (k : Nat) : nI (k + 1) + Int32.ofInt (-1) = nI k := pk_m1 k
theorem k_arrV {cA : ClassId} {n : Nat} {f g : Nat → Value} (h : ∀ j, j < n → f j = g j) : arrV cA n f = arrV cA n g := by
  unfold arrV
  congr 1
  apply Array.ext
  · simp
  · intro i h1 h2
    simp only [Array.getElem_ofFn]
    exact h i (by simpa using h1)
theorem k_setW {D : va_G} {W : va_W} {H : Heap} {a : Nat} {x y : va_E} (hP : va_P D vwCl W H) (q0 : Nat) (ha : W[q0]? = some (a, x)) (h : va_at D vwCl (a, x) H → va_at D vwCl (a, y) H) : va_P D vwCl (W.set q0 (a, y)) H := by
  intro k q hq
  by_cases hk : k = q0
  · subst hk
    have hl : k < W.length := (List.getElem?_eq_some_iff.mp ha).1
    rw [List.getElem?_set_self hl] at hq
    cases hq
    exact h (hP k _ ha)
  · rw [List.getElem?_set_ne (Ne.symm hk)] at hq
    exact hP k q hq
/-- an int array's contents by another name -/
theorem k_arr {D : va_G} {W : va_W} {H : Heap} {a n : Nat} {cA : ClassId} {f g : Nat → Int32} (hP : va_P D vwCl W H) (q0 : Nat) (ha : W[q0]? = some (a, .inl (cA, n, .inl f))) (h : ∀ j, j < n → f j = g j) : va_P D vwCl (W.set q0 (a, .inl (cA, n, .inl g))) H :=
  k_setW hP q0 ha (fun h0 => by
    have h1 : H[a]? = some (arrV cA n (fun j => .int (f j))) := h0
    show H[a]? = some (arrV cA n (fun j => .int (g j)))
    rw [h1, k_arrV (fun j hj => by rw [h j hj])])
theorem k_arrL {D : va_G} {W : va_W} {H : Heap} {a n : Nat} {cA : ClassId} {f g : Nat → Int64} (hP : va_P D vwCl W H) (q0 : Nat) (ha : W[q0]? = some (a, .inl (cA, n, .inr (.inl f)))) (h : ∀ j, j < n → f j = g j) : va_P D vwCl (W.set q0 (a, .inl (cA, n, .inr (.inl g)))) H :=
  k_setW hP q0 ha (fun h0 => by
    have h1 : H[a]? = some (arrV cA n (fun j => .long (f j))) := h0
    show H[a]? = some (arrV cA n (fun j => .long (g j)))
    rw [h1, k_arrV (fun j hj => by rw [h j hj])])
theorem k_fm {α β : Type} {f : β → Option α} : ∀ (is : List β) (w : List α), is.map f = w.map some → is.filterMap f = w
  | [], w, h => by
    cases w with
    | nil => rfl
    | cons a t => simp at h
  | i :: is, w, h => by
    cases w with
    | nil => simp at h
    | cons a t =>
      simp only [List.map_cons, List.cons.injEq] at h
      rw [List.filterMap_cons, h.1, k_fm is t h.2]
theorem k_met {l : Launch} {D : va_G} {sz : Nat} {W0 : va_W} {T : List (ClassId × FieldType)} {y : MethodName} {ws ws' : List Cond} {rm : Room} {Qf : (Nat → Prop) → Array Value → State → Outcome → State → Prop} {mc ms : Nat} {cc : ByteArray} {maxL : Nat} {ret : Option FieldType} {av : List Value} {own : String}
    (hy : plainName y.cls = true) (hw : ws = Cond.code y cc maxL ret :: ws') (hlen : (lg_sl av).length ≤ maxL) (ho : y.cls = own)
    (body : ∀ (p : Program) (e : Env) (s : State) (m : MethodId) (args : Array Value) (below : List Frame) (meth : Method) (c : Code) (ls : Array Slot) (A : Nat → Prop) (H : Heap) (locs : List Loc), p.tables.exec = Jvm.exec → c.code = cc → meth.sig.returnType = ret → (∀ w ∈ ws, w.before args s = true) → s.vm.findClass own = some m.cls → meth.locks = false → c.maxLocals = maxL → meth.name = y.name → H.size = sz → va_P D vwCl W0 H → va_K D vwCl T s → va_D A W0 → (∀ q : Nat, s.heap.size ≤ q → A q) → va_S A s.heap H locs → kN s → lv_has ls maxL (lv_args 0 av) →
      W p l e rm s m args below meth c H locs 0 0 (MQ below (Qf A) args s mc ms A) (F0 m 0 ls [])) : Met l y ws rm (va_Pc av (kPre D sz W0 T)) (Qf (va_A W0 sz)) mc ms (va_A W0 sz) := by
  refine Met.ofW (cc := cc) (maxL := maxL) (ret := ret) hy hw ?_
  intro p e s m args below meth c s₁ B hml hv
  obtain ⟨rfl, hsz, hP, hK, hD0, hN⟩ := hv
  subst hsz
  rw [lg_entry_eq]
  refine body p e s m _ below meth c _ (va_A W0 s.heap.size) s.heap [] B.exec B.bytes B.returns (atoms_spec (ws := ws) B.pre) ?_ B.notSynchronized hml ?_ rfl hP hK hD0.self (fun q h => Or.inr h) va_S.rf hN (lv_entry av hlen)
  · rw [← ho]
    exact findClass_of_methodNamed B.named
  · exact (name_of_methodNamed B.named B.method).1
/-- .. that may draw -/
theorem k_metD {l : Launch} {D : va_G} {sz : Nat} {W0 : va_W} {T : List (ClassId × FieldType)} {y : MethodName} {ws ws' : List Cond} {rm : Room} {Qf : (Nat → Prop) → Array Value → State → Outcome → State → Prop} {mc ms : Nat} {cc : ByteArray} {maxL : Nat} {ret : Option FieldType} {av : List Value} {own : String}
    (hy : plainName y.cls = true) (hw : ws = Cond.code y cc maxL ret :: ws') (hlen : (lg_sl av).length ≤ maxL) (ho : y.cls = own)
    (body : ∀ (p : Program) (e : Env) (s s1 : State) (m : MethodId) (args : Array Value) (below : List Frame) (meth : Method) (c : Code) (ls : Array Slot) (A : Nat → Prop) (H : Heap) (locs : List Loc), p.tables.exec = Jvm.exec → c.code = cc → meth.sig.returnType = ret → (∀ w ∈ ws, w.before args s1 = true) → s1.vm.findClass own = some m.cls → meth.locks = false → c.maxLocals = maxL → meth.name = y.name → H.size = sz → va_P D vwCl W0 H → va_K D vwCl T s1 → va_D A W0 → (∀ q : Nat, s1.heap.size ≤ q → A q) → va_S A s1.heap H locs → kN s1 → s1 = s.setDrawn s.drawn → s.drawn.sameBut s.drawn lw_cs → lv_has ls maxL (lv_args 0 av) →
      W p l e rm s1 m args below meth c H locs 0 0 (MQD lw_cs below (Qf A) args s mc ms A) (F0 m 0 ls [])) : MetD lw_cs l y ws rm (va_Pc av (kPre D sz W0 T)) (Qf (va_A W0 sz)) mc ms (va_A W0 sz) := by
  refine MetD.ofW (cc := cc) (maxL := maxL) (ret := ret) hy hw ?_
  intro p e s m args below meth c s₁ B hml hv hd0
  obtain ⟨rfl, hsz, hP, hK, hD0, hN⟩ := hv
  subst hsz
  rw [lg_entry_eq]
  refine body p e s (s.setDrawn s.drawn) m _ below meth c _ (va_A W0 s.heap.size) s.heap [] B.exec B.bytes B.returns (dr_words (atoms_spec (ws := ws) B.pre) _) ?_ B.notSynchronized hml ?_ rfl hP hK hD0.self (fun q h => Or.inr h) va_S.rf hN rfl hd0 (lv_entry av hlen)
  · rw [← ho]
    exact findClass_of_methodNamed B.named
  · exact (name_of_methodNamed B.named B.method).1
/-- .. of a method that neither reads nor writes a cell -/
theorem k_met0 {l : Launch} {y : MethodName} {ws ws' : List Cond} {rm : Room} {Qf : Array Value → State → Outcome → State → Prop} {cc : ByteArray} {maxL : Nat} {ret : Option FieldType} {av : List Value} {own : String}
    (hy : plainName y.cls = true) (hw : ws = Cond.code y cc maxL ret :: ws') (hlen : (lg_sl av).length ≤ maxL) (ho : y.cls = own)
    (body : ∀ (p : Program) (e : Env) (s : State) (m : MethodId) (args : Array Value) (below : List Frame) (meth : Method) (c : Code) (ls : Array Slot) (H : Heap) (locs : List Loc), p.tables.exec = Jvm.exec → c.code = cc → meth.sig.returnType = ret → (∀ w ∈ ws, w.before args s = true) → s.vm.findClass own = some m.cls → meth.locks = false → c.maxLocals = maxL → va_S (fun _ => False) s.heap H locs → lv_has ls maxL (lv_args 0 av) →
      W p l e rm s m args below meth c H locs 0 0 (MQ below Qf args s 0 0 (fun _ => False)) (F0 m 0 ls [])) : Met l y ws rm (va_Pc av (fun _ => True)) Qf 0 0 (fun _ => False) := by
  refine Met.ofW (cc := cc) (maxL := maxL) (ret := ret) hy hw ?_
  intro p e s m args below meth c s₁ B hml hv
  obtain ⟨rfl, -⟩ := hv
  rw [lg_entry_eq]
  refine body p e s m _ below meth c _ s.heap [] B.exec B.bytes B.returns (atoms_spec (ws := ws) B.pre) ?_ B.notSynchronized hml va_S.rf (lv_entry av hlen)
  rw [← ho]
  exact findClass_of_methodNamed B.named
section KC
variable {p : Program} {l : Launch} {e : Env} {R : Room} {s : State} {m : MethodId} {args : Array Value} {below : List Frame} {meth : Method} {c : Code} {H : Heap} {locs : List Loc} {cells slots : Nat} {Q : State → Prop}
variable {cc : ByteArray} {pc : Nat} {ls : Array Slot} {rest st0 : List Value} {D : va_G} {T : List (ClassId × FieldType)} {A : Nat → Prop} {H0 : Heap} {W0 wc wr w1 : va_W}
variable {y : MethodName} {bytes : ByteArray} {maxL nL n index : Nat} {ret : Option FieldType} {ws Ts : List Cond} {rm : Room} {own C : String} {b : Nat} {As : List Value}
theorem k_preV (hN : kN s) {q0 ci : Nat} {q : vw_C} {fs : List Value} {isC : List Nat} (hP : va_P D vwCl W0 H) (hD : va_D A W0) (hK : va_K D vwCl T s) (hC : isC.map (fun i => W0[i]?) = wc.map some) (hnC : va_nd isC = true) (hcl : vwCl[ci]? = some q) (hC2 : q.1 = C) (hq : W0[q0]? = some (b, .inr (ci, fs))) : PreV s H C b (va_Pc (.ref b :: As) (kPre D H.size wc T)) As := by
  subst hC2
  refine ⟨k_blind, va_recv hK hP hcl hq, fun U hU hW => ⟨rfl, by rw [hU], ?_, va_K.moved hW.alike hK, (hD.sub isC hnC hC).weaken (fun _ _ _ _ => trivial), hN.warm hW⟩⟩
  rw [hU]
  exact hP.sub isC (k_fm isC wc hC)
theorem k_preS (hN : kN s) {isC : List Nat} (hP : va_P D vwCl W0 H) (hD : va_D A W0) (hK : va_K D vwCl T s) (hC : isC.map (fun i => W0[i]?) = wc.map some) (hnC : va_nd isC = true) : PreS s H (va_Pc As (kPre D H.size wc T)) As := by
  refine ⟨k_blind, fun U hU hW => ⟨rfl, by rw [hU], ?_, va_K.moved hW.alike hK, (hD.sub isC hnC hC).weaken (fun _ _ _ _ => trivial), hN.warm hW⟩⟩
  rw [hU]
  exact hP.sub isC (k_fm isC wc hC)
theorem k_joined {t : State} {H1 : Heap} {isC isR : List Nat} (hP : va_P D vwCl W0 H) (hD : va_D A W0) (hS : va_S A H0 H locs) (hA : ∀ q, H0.size ≤ q → A q) (hC : isC.map (fun i => W0[i]?) = wc.map some) (hR : isR.map (fun i => W0[i]?) = wr.map some) (hnR : va_nd isR = true) (hdis : ∀ i ∈ isR, i ∉ isC)
    (hk : ∀ q : Nat, q < H.size → ¬ va_A wc H.size q → H1[q]? = H[q]?) (hB : kPost D w1 (va_A wc H.size) t) (ht : t.heap = H1) : va_P D vwCl (wr ++ w1) H1 ∧ va_D A (wr ++ w1) := by
  obtain ⟨hP1, hD1⟩ := hB
  rw [ht] at hP1
  exact va_join hP hD isC isR hC hR hnR hdis hk (va_free hD hS hA isC hC) hP1 hD1
/-- a virtual call, an int comes back -/
theorem kv_i {res : Int32} (S : CallFix p m c cc nL s args Ts own) (hM : Met l y ws rm (va_Pc (.ref b :: As) (kPre D H.size wc T)) (kQi D res w1 (va_A wc H.size)) 0 0 (va_A wc H.size)) (cw : CallW R s args own C index y bytes maxL ret ws rm 0 0 n)
    (hP : va_P D vwCl W0 H) (hD : va_D A W0) (hK : va_K D vwCl T s) (hS : va_S A H0 H locs) (hA : ∀ q, H0.size ≤ q → A q) (hN : kN s) (isC isR : List Nat) (hC : isC.map (fun i => W0[i]?) = wc.map some) (hR : isR.map (fun i => W0[i]?) = wr.map some) (hnC : va_nd isC = true) (hnR : va_nd isR = true) (hdis : ∀ i ∈ isR, i ∉ isC)
    (q0 ci : Nat) {q : vw_C} {fs : List Value} (hcl : vwCl[ci]? = some q) (hC2 : q.1 = C) (hq : W0[q0]? = some (b, .inr (ci, fs))) (hn : As.length = n) (hsize : ls.size = nL) (hstack : st0 = As.reverse ++ .ref b :: rest) (hW : (rest.map fun v => v.category).sum ≤ 8) (hdg : decode cc pc = .ok (.invokevirtual index, 3)) (hf : cells ≤ R.cells ∧ slots ≤ R.slots)
    (kk : ∀ (H1 : Heap) (locs1 : List Loc), va_P D vwCl (wr ++ w1) H1 → va_D A (wr ++ w1) → va_S A H0 H1 locs1 → W p l e R s m args below meth c H1 locs1 cells slots Q (F0 m (pc + 3) ls (.int res :: rest))) : W p l e R s m args below meth c H locs cells slots Q (F0 m pc ls st0) := by
  have hf2 := va_free hD hS hA isC hC
  refine va_calli (va_runV S hM cw (k_preV hN hP hD hK hC hnC hcl hC2 hq) rfl hn hsize hstack (lv_room hW) hdg hf) hS (fun q _ h => hf2 q h) hf2 (fun r u t H1 locs1 ht hvm hw hB hz hk hS1 => ?_)
  obtain ⟨h1, h2⟩ := k_joined hP hD hS hA hC hR hnR hdis hk hB ht
  subst hw
  exact kk H1 locs1 h1 h2 hS1
/-- .. a long -/
theorem kv_l {res : Int64} (S : CallFix p m c cc nL s args Ts own) (hM : Met l y ws rm (va_Pc (.ref b :: As) (kPre D H.size wc T)) (kQl D res w1 (va_A wc H.size)) 0 0 (va_A wc H.size)) (cw : CallW R s args own C index y bytes maxL ret ws rm 0 0 n)
    (hP : va_P D vwCl W0 H) (hD : va_D A W0) (hK : va_K D vwCl T s) (hS : va_S A H0 H locs) (hA : ∀ q, H0.size ≤ q → A q) (hN : kN s) (isC isR : List Nat) (hC : isC.map (fun i => W0[i]?) = wc.map some) (hR : isR.map (fun i => W0[i]?) = wr.map some) (hnC : va_nd isC = true) (hnR : va_nd isR = true) (hdis : ∀ i ∈ isR, i ∉ isC)
    (q0 ci : Nat) {q : vw_C} {fs : List Value} (hcl : vwCl[ci]? = some q) (hC2 : q.1 = C) (hq : W0[q0]? = some (b, .inr (ci, fs))) (hn : As.length = n) (hsize : ls.size = nL) (hstack : st0 = As.reverse ++ .ref b :: rest) (hW : (rest.map fun v => v.category).sum ≤ 8) (hdg : decode cc pc = .ok (.invokevirtual index, 3)) (hf : cells ≤ R.cells ∧ slots ≤ R.slots)
    (kk : ∀ (H1 : Heap) (locs1 : List Loc), va_P D vwCl (wr ++ w1) H1 → va_D A (wr ++ w1) → va_S A H0 H1 locs1 → W p l e R s m args below meth c H1 locs1 cells slots Q (F0 m (pc + 3) ls (.long res :: rest))) : W p l e R s m args below meth c H locs cells slots Q (F0 m pc ls st0) := by
  have hf2 := va_free hD hS hA isC hC
  refine va_calll (va_runV S hM cw (k_preV hN hP hD hK hC hnC hcl hC2 hq) rfl hn hsize hstack (lv_room hW) hdg hf) hS (fun q _ h => hf2 q h) hf2 (fun r u t H1 locs1 ht hvm hw hB hz hk hS1 => ?_)
  obtain ⟨h1, h2⟩ := k_joined hP hD hS hA hC hR hnR hdis hk hB ht
  subst hw
  exact kk H1 locs1 h1 h2 hS1
/-- a virtual call, an int comes back -/
theorem kv_ix {σ : Type} {w1 : σ → va_W} {res : Int32} (S : CallFix p m c cc nL s args Ts own) (hM : Met l y ws rm (va_Pc (.ref b :: As) (kPre D H.size wc T)) (kQix D res w1 (va_A wc H.size)) 0 0 (va_A wc H.size)) (cw : CallW R s args own C index y bytes maxL ret ws rm 0 0 n)
    (hP : va_P D vwCl W0 H) (hD : va_D A W0) (hK : va_K D vwCl T s) (hS : va_S A H0 H locs) (hA : ∀ q, H0.size ≤ q → A q) (hN : kN s) (isC isR : List Nat) (hC : isC.map (fun i => W0[i]?) = wc.map some) (hR : isR.map (fun i => W0[i]?) = wr.map some) (hnC : va_nd isC = true) (hnR : va_nd isR = true) (hdis : ∀ i ∈ isR, i ∉ isC)
    (q0 ci : Nat) {q : vw_C} {fs : List Value} (hcl : vwCl[ci]? = some q) (hC2 : q.1 = C) (hq : W0[q0]? = some (b, .inr (ci, fs))) (hn : As.length = n) (hsize : ls.size = nL) (hstack : st0 = As.reverse ++ .ref b :: rest) (hW : (rest.map fun v => v.category).sum ≤ 8) (hdg : decode cc pc = .ok (.invokevirtual index, 3)) (hf : cells ≤ R.cells ∧ slots ≤ R.slots)
    (kk : ∀ (u : σ) (H1 : Heap) (locs1 : List Loc), va_P D vwCl (wr ++ w1 u) H1 → va_D A (wr ++ w1 u) → va_S A H0 H1 locs1 → W p l e R s m args below meth c H1 locs1 cells slots Q (F0 m (pc + 3) ls (.int res :: rest))) : W p l e R s m args below meth c H locs cells slots Q (F0 m pc ls st0) := by
  have hf2 := va_free hD hS hA isC hC
  refine va_calli (va_runV S hM cw (k_preV hN hP hD hK hC hnC hcl hC2 hq) rfl hn hsize hstack (lv_room hW) hdg hf) hS (fun q _ h => hf2 q h) hf2 (fun r u t H1 locs1 ht hvm hw hB hz hk hS1 => ?_)
  obtain ⟨h1, h2⟩ := k_joined hP hD hS hA hC hR hnR hdis hk hB ht
  subst hw
  exact kk u H1 locs1 h1 h2 hS1
/-- .. a long -/
theorem kv_lx {σ : Type} {w1 : σ → va_W} {res : Int64} (S : CallFix p m c cc nL s args Ts own) (hM : Met l y ws rm (va_Pc (.ref b :: As) (kPre D H.size wc T)) (kQlx D res w1 (va_A wc H.size)) 0 0 (va_A wc H.size)) (cw : CallW R s args own C index y bytes maxL ret ws rm 0 0 n)
    (hP : va_P D vwCl W0 H) (hD : va_D A W0) (hK : va_K D vwCl T s) (hS : va_S A H0 H locs) (hA : ∀ q, H0.size ≤ q → A q) (hN : kN s) (isC isR : List Nat) (hC : isC.map (fun i => W0[i]?) = wc.map some) (hR : isR.map (fun i => W0[i]?) = wr.map some) (hnC : va_nd isC = true) (hnR : va_nd isR = true) (hdis : ∀ i ∈ isR, i ∉ isC)
    (q0 ci : Nat) {q : vw_C} {fs : List Value} (hcl : vwCl[ci]? = some q) (hC2 : q.1 = C) (hq : W0[q0]? = some (b, .inr (ci, fs))) (hn : As.length = n) (hsize : ls.size = nL) (hstack : st0 = As.reverse ++ .ref b :: rest) (hW : (rest.map fun v => v.category).sum ≤ 8) (hdg : decode cc pc = .ok (.invokevirtual index, 3)) (hf : cells ≤ R.cells ∧ slots ≤ R.slots)
    (kk : ∀ (u : σ) (H1 : Heap) (locs1 : List Loc), va_P D vwCl (wr ++ w1 u) H1 → va_D A (wr ++ w1 u) → va_S A H0 H1 locs1 → W p l e R s m args below meth c H1 locs1 cells slots Q (F0 m (pc + 3) ls (.long res :: rest))) : W p l e R s m args below meth c H locs cells slots Q (F0 m pc ls st0) := by
  have hf2 := va_free hD hS hA isC hC
  refine va_calll (va_runV S hM cw (k_preV hN hP hD hK hC hnC hcl hC2 hq) rfl hn hsize hstack (lv_room hW) hdg hf) hS (fun q _ h => hf2 q h) hf2 (fun r u t H1 locs1 ht hvm hw hB hz hk hS1 => ?_)
  obtain ⟨h1, h2⟩ := k_joined hP hD hS hA hC hR hnR hdis hk hB ht
  subst hw
  exact kk u H1 locs1 h1 h2 hS1
/-- .. nothing -/
theorem kv_v (S : CallFix p m c cc nL s args Ts own) (hM : Met l y ws rm (va_Pc (.ref b :: As) (kPre D H.size wc T)) (kQv D w1 (va_A wc H.size)) 0 0 (va_A wc H.size)) (cw : CallW R s args own C index y bytes maxL ret ws rm 0 0 n)
    (hP : va_P D vwCl W0 H) (hD : va_D A W0) (hK : va_K D vwCl T s) (hS : va_S A H0 H locs) (hA : ∀ q, H0.size ≤ q → A q) (hN : kN s) (isC isR : List Nat) (hC : isC.map (fun i => W0[i]?) = wc.map some) (hR : isR.map (fun i => W0[i]?) = wr.map some) (hnC : va_nd isC = true) (hnR : va_nd isR = true) (hdis : ∀ i ∈ isR, i ∉ isC)
    (q0 ci : Nat) {q : vw_C} {fs : List Value} (hcl : vwCl[ci]? = some q) (hC2 : q.1 = C) (hq : W0[q0]? = some (b, .inr (ci, fs))) (hn : As.length = n) (hsize : ls.size = nL) (hstack : st0 = As.reverse ++ .ref b :: rest) (hW : (rest.map fun v => v.category).sum ≤ 8) (hdg : decode cc pc = .ok (.invokevirtual index, 3)) (hf : cells ≤ R.cells ∧ slots ≤ R.slots)
    (kk : ∀ (H1 : Heap) (locs1 : List Loc), va_P D vwCl (wr ++ w1) H1 → va_D A (wr ++ w1) → va_S A H0 H1 locs1 → W p l e R s m args below meth c H1 locs1 cells slots Q (F0 m (pc + 3) ls rest)) : W p l e R s m args below meth c H locs cells slots Q (F0 m pc ls st0) := by
  have hf2 := va_free hD hS hA isC hC
  refine va_callv (va_runV S hM cw (k_preV hN hP hD hK hC hnC hcl hC2 hq) rfl hn hsize hstack (lv_room hW) hdg hf) hS (fun q _ h => hf2 q h) hf2 (fun u t H1 locs1 ht hvm hw hB hz hk hS1 => ?_)
  obtain ⟨h1, h2⟩ := k_joined hP hD hS hA hC hR hnR hdis hk hB ht
  exact kk H1 locs1 h1 h2 hS1
/-- a static call with a world, nothing comes back -/
theorem ks_v (S : CallFix p m c cc nL s args Ts own) (hM : Met l y ws rm (va_Pc As (kPre D H.size wc T)) (kQv D w1 (va_A wc H.size)) 0 0 (va_A wc H.size)) (cw : CallB R s args own index y bytes maxL ret ws rm 0 0 n ∧ (Cond.static y).before args s = true)
    (hP : va_P D vwCl W0 H) (hD : va_D A W0) (hK : va_K D vwCl T s) (hS : va_S A H0 H locs) (hA : ∀ q, H0.size ≤ q → A q) (hN : kN s) (isC isR : List Nat) (hC : isC.map (fun i => W0[i]?) = wc.map some) (hR : isR.map (fun i => W0[i]?) = wr.map some) (hnC : va_nd isC = true) (hnR : va_nd isR = true) (hdis : ∀ i ∈ isR, i ∉ isC)
    (hn : As.length = n) (hsize : ls.size = nL) (hstack : st0 = As.reverse ++ rest) (hW : (rest.map fun v => v.category).sum ≤ 8) (hdg : decode cc pc = .ok (.invokestatic index, 3)) (hf : cells ≤ R.cells ∧ slots ≤ R.slots)
    (kk : ∀ (H1 : Heap) (locs1 : List Loc), va_P D vwCl (wr ++ w1) H1 → va_D A (wr ++ w1) → va_S A H0 H1 locs1 → W p l e R s m args below meth c H1 locs1 cells slots Q (F0 m (pc + 3) ls rest)) : W p l e R s m args below meth c H locs cells slots Q (F0 m pc ls st0) := by
  have hf2 := va_free hD hS hA isC hC
  refine va_callv (va_runS S hM cw (k_preS hN hP hD hK hC hnC) rfl hn hsize hstack (lv_room hW) hdg hf) hS (fun q _ h => hf2 q h) hf2 (fun u t H1 locs1 ht hvm hw hB hz hk hS1 => ?_)
  obtain ⟨h1, h2⟩ := k_joined hP hD hS hA hC hR hnR hdis hk hB ht
  exact kk H1 locs1 h1 h2 hS1
theorem k_pre0 : PreS s H (va_Pc As (fun _ => True)) As := ⟨fun _ _ _ _ q => q, fun _ _ _ => ⟨rfl, trivial⟩⟩
/-- a static call of a method that neither reads nor writes a cell -/
theorem ks_i0 {res : Int32} (S : CallFix p m c cc nL s args Ts own) (hM : Met l y ws rm (va_Pc As (fun _ => True)) (kPi res) 0 0 (fun _ => False)) (cw : CallB R s args own index y bytes maxL ret ws rm 0 0 n ∧ (Cond.static y).before args s = true)
    (hP : va_P D vwCl W0 H) (hS : va_S A H0 H locs) (hn : As.length = n) (hsize : ls.size = nL) (hstack : st0 = As.reverse ++ rest) (hW : (rest.map fun v => v.category).sum ≤ 8) (hdg : decode cc pc = .ok (.invokestatic index, 3)) (hf : cells ≤ R.cells ∧ slots ≤ R.slots)
    (kk : ∀ (H1 : Heap) (locs1 : List Loc), va_P D vwCl W0 H1 → va_S A H0 H1 locs1 → W p l e R s m args below meth c H1 locs1 cells slots Q (F0 m (pc + 3) ls (.int res :: rest))) : W p l e R s m args below meth c H locs cells slots Q (F0 m pc ls st0) := by
  refine va_calli (va_runS S hM cw k_pre0 rfl hn hsize hstack (lv_room hW) hdg hf) hS (fun q _ h => h.elim) (fun q h => h.elim) (fun r u t H1 locs1 ht hvm hw hB hz hk hS1 => ?_)
  subst hw
  exact kk H1 locs1 (hP.kept (fun k q hq => hk q.1 (hP k q hq).lt (fun h => h))) hS1
theorem ks_v0 (S : CallFix p m c cc nL s args Ts own) (hM : Met l y ws rm (va_Pc As (fun _ => True)) kPv 0 0 (fun _ => False)) (cw : CallB R s args own index y bytes maxL ret ws rm 0 0 n ∧ (Cond.static y).before args s = true)
    (hP : va_P D vwCl W0 H) (hS : va_S A H0 H locs) (hn : As.length = n) (hsize : ls.size = nL) (hstack : st0 = As.reverse ++ rest) (hW : (rest.map fun v => v.category).sum ≤ 8) (hdg : decode cc pc = .ok (.invokestatic index, 3)) (hf : cells ≤ R.cells ∧ slots ≤ R.slots)
    (kk : ∀ (H1 : Heap) (locs1 : List Loc), va_P D vwCl W0 H1 → va_S A H0 H1 locs1 → W p l e R s m args below meth c H1 locs1 cells slots Q (F0 m (pc + 3) ls rest)) : W p l e R s m args below meth c H locs cells slots Q (F0 m pc ls st0) := by
  refine va_callv (va_runS S hM cw k_pre0 rfl hn hsize hstack (lv_room hW) hdg hf) hS (fun q _ h => h.elim) (fun q h => h.elim) (fun u t H1 locs1 ht hvm hw hB hz hk hS1 => ?_)
  exact kk H1 locs1 (hP.kept (fun k q hq => hk q.1 (hP k q hq).lt (fun h => h))) hS1
theorem ks_l0 {res : Int64} (S : CallFix p m c cc nL s args Ts own) (hM : Met l y ws rm (va_Pc As (fun _ => True)) (kPl res) 0 0 (fun _ => False)) (cw : CallB R s args own index y bytes maxL ret ws rm 0 0 n ∧ (Cond.static y).before args s = true)
    (hP : va_P D vwCl W0 H) (hS : va_S A H0 H locs) (hn : As.length = n) (hsize : ls.size = nL) (hstack : st0 = As.reverse ++ rest) (hW : (rest.map fun v => v.category).sum ≤ 8) (hdg : decode cc pc = .ok (.invokestatic index, 3)) (hf : cells ≤ R.cells ∧ slots ≤ R.slots)
    (kk : ∀ (H1 : Heap) (locs1 : List Loc), va_P D vwCl W0 H1 → va_S A H0 H1 locs1 → W p l e R s m args below meth c H1 locs1 cells slots Q (F0 m (pc + 3) ls (.long res :: rest))) : W p l e R s m args below meth c H locs cells slots Q (F0 m pc ls st0) := by
  refine va_calll (va_runS S hM cw k_pre0 rfl hn hsize hstack (lv_room hW) hdg hf) hS (fun q _ h => h.elim) (fun q h => h.elim) (fun r u t H1 locs1 ht hvm hw hB hz hk hS1 => ?_)
  subst hw
  exact kk H1 locs1 (hP.kept (fun k q hq => hk q.1 (hP k q hq).lt (fun h => h))) hS1
/-- .. across the nest -/
theorem ksn_i0 {res : Int32} {host : String} (S : CallFix p m c cc nL s args Ts own) (hM : Met l y ws rm (va_Pc As (fun _ => True)) (kPi res) 0 0 (fun _ => False)) (cw : va_CN R s args own index y host bytes maxL ret ws rm 0 0 n ∧ (Cond.static y).before args s = true ∧ True)
    (hP : va_P D vwCl W0 H) (hS : va_S A H0 H locs) (hn : As.length = n) (hsize : ls.size = nL) (hstack : st0 = As.reverse ++ rest) (hW : (rest.map fun v => v.category).sum ≤ 8) (hdg : decode cc pc = .ok (.invokestatic index, 3)) (hf : cells ≤ R.cells ∧ slots ≤ R.slots)
    (kk : ∀ (H1 : Heap) (locs1 : List Loc), va_P D vwCl W0 H1 → va_S A H0 H1 locs1 → W p l e R s m args below meth c H1 locs1 cells slots Q (F0 m (pc + 3) ls (.int res :: rest))) : W p l e R s m args below meth c H locs cells slots Q (F0 m pc ls st0) := by
  refine va_calli (va_runSN S hM cw k_pre0 rfl hn hsize hstack (lv_room hW) hdg hf) hS (fun q _ h => h.elim) (fun q h => h.elim) (fun r u t H1 locs1 ht hvm hw hB hz hk hS1 => ?_)
  subst hw
  exact kk H1 locs1 (hP.kept (fun k q hq => hk q.1 (hP k q hq).lt (fun h => h))) hS1
-- array rows by natural places
theorem k_iald {cA : ClassId} {k N a : Nat} {f : Nat → Int32} (hexec : p.tables.exec = Jvm.exec) (hb : c.code = cc) (hK : va_K D vwCl T s) (hP : va_P D vwCl W0 H) (q0 t0 : Nat) (ha : W0[q0]? = some (a, .inl (cA, N, .inl f))) (ht : T[t0]? = some (cA, .int)) (hk : k < N) (hn : N < 2 ^ 31) (hdg : decode cc pc = .ok (.iaload, 1)) (kk : W p l e R s m args below meth c H locs cells slots Q (F0 m (pc + 1) ls (.int (f k) :: rest))) : W p l e R s m args below meth c H locs cells slots Q (F0 m pc ls (.int (nI k) :: .ref a :: rest)) :=
  va_iald hexec hb hK hP q0 t0 ha ht (vp_in_nI hk hn) hdg (by rw [nI_clamp (Nat.lt_trans hk hn)]; exact kk)
theorem k_cald {cA : ClassId} {k N a : Nat} {f : Nat → Int32} (hexec : p.tables.exec = Jvm.exec) (hb : c.code = cc) (hK : va_K D vwCl T s) (hP : va_P D vwCl W0 H) (q0 t0 : Nat) (ha : W0[q0]? = some (a, .inl (cA, N, .inl f))) (ht : T[t0]? = some (cA, .char)) (hk : k < N) (hn : N < 2 ^ 31) (hdg : decode cc pc = .ok (.caload, 1)) (kk : W p l e R s m args below meth c H locs cells slots Q (F0 m (pc + 1) ls (.int (f k) :: rest))) : W p l e R s m args below meth c H locs cells slots Q (F0 m pc ls (.int (nI k) :: .ref a :: rest)) :=
  va_cald hexec hb hK hP q0 t0 ha ht (vp_in_nI hk hn) hdg (by rw [nI_clamp (Nat.lt_trans hk hn)]; exact kk)
theorem k_zald {cA : ClassId} {k N a : Nat} {f : Nat → Int32} (hexec : p.tables.exec = Jvm.exec) (hb : c.code = cc) (hK : va_K D vwCl T s) (hP : va_P D vwCl W0 H) (q0 t0 : Nat) (ha : W0[q0]? = some (a, .inl (cA, N, .inl f))) (ht : T[t0]? = some (cA, .boolean)) (hk : k < N) (hn : N < 2 ^ 31) (hdg : decode cc pc = .ok (.baload, 1)) (kk : W p l e R s m args below meth c H locs cells slots Q (F0 m (pc + 1) ls (.int (f k) :: rest))) : W p l e R s m args below meth c H locs cells slots Q (F0 m pc ls (.int (nI k) :: .ref a :: rest)) :=
  va_zald hexec hb hK hP q0 t0 ha ht (vp_in_nI hk hn) hdg (by rw [nI_clamp (Nat.lt_trans hk hn)]; exact kk)
theorem k_lald {cA : ClassId} {k N a : Nat} {f : Nat → Int64} (hexec : p.tables.exec = Jvm.exec) (hb : c.code = cc) (hK : va_K D vwCl T s) (hP : va_P D vwCl W0 H) (q0 t0 : Nat) (ha : W0[q0]? = some (a, .inl (cA, N, .inr (.inl f)))) (ht : T[t0]? = some (cA, .long)) (hk : k < N) (hn : N < 2 ^ 31) (hdg : decode cc pc = .ok (.laload, 1)) (kk : W p l e R s m args below meth c H locs cells slots Q (F0 m (pc + 1) ls (.long (f k) :: rest))) : W p l e R s m args below meth c H locs cells slots Q (F0 m pc ls (.int (nI k) :: .ref a :: rest)) :=
  va_lald hexec hb hK hP q0 t0 ha ht (vp_in_nI hk hn) hdg (by rw [nI_clamp (Nat.lt_trans hk hn)]; exact kk)
theorem k_iast {cA : ClassId} {k N a : Nat} {f : Nat → Int32} {x : Int32} (hexec : p.tables.exec = Jvm.exec) (hb : c.code = cc) (hK : va_K D vwCl T s) (hP : va_P D vwCl W0 H) (hD : va_D A W0) (hS : va_S A H0 H locs) (q0 t0 : Nat) (ha : W0[q0]? = some (a, .inl (cA, N, .inl (f)))) (ht : T[t0]? = some (cA, .int)) (hk : k < N) (hn : N < 2 ^ 31) (hdg : decode cc pc = .ok (.iastore, 1)) (kk : ∀ (H1 : Heap) (locs1 : List Loc), va_P D vwCl (W0.set q0 (a, .inl (cA, N, .inl (upd f k x)))) H1 → va_D A (W0.set q0 (a, .inl (cA, N, .inl (upd f k x)))) → va_S A H0 H1 locs1 → W p l e R s m args below meth c H1 locs1 cells slots Q (F0 m (pc + 1) ls rest)) : W p l e R s m args below meth c H locs cells slots Q (F0 m pc ls (.int x :: .int (nI k) :: .ref a :: rest)) :=
  va_iast hexec hb hK hP hD hS q0 t0 ha ht (vp_in_nI hk hn) hdg (by rw [nI_clamp (Nat.lt_trans hk hn)]; exact kk)
theorem k_cast {cA : ClassId} {k N a : Nat} {f : Nat → Int32} {x y : Int32} (hexec : p.tables.exec = Jvm.exec) (hb : c.code = cc) (hK : va_K D vwCl T s) (hP : va_P D vwCl W0 H) (hD : va_D A W0) (hS : va_S A H0 H locs) (q0 t0 : Nat) (ha : W0[q0]? = some (a, .inl (cA, N, .inl (f)))) (ht : T[t0]? = some (cA, .char)) (hk : k < N) (hn : N < 2 ^ 31) (hx : vp_nar .char x = y) (hdg : decode cc pc = .ok (.castore, 1)) (kk : ∀ (H1 : Heap) (locs1 : List Loc), va_P D vwCl (W0.set q0 (a, .inl (cA, N, .inl (upd f k y)))) H1 → va_D A (W0.set q0 (a, .inl (cA, N, .inl (upd f k y)))) → va_S A H0 H1 locs1 → W p l e R s m args below meth c H1 locs1 cells slots Q (F0 m (pc + 1) ls rest)) : W p l e R s m args below meth c H locs cells slots Q (F0 m pc ls (.int x :: .int (nI k) :: .ref a :: rest)) :=
  va_cast hexec hb hK hP hD hS q0 t0 ha ht (vp_in_nI hk hn) hdg (by rw [nI_clamp (Nat.lt_trans hk hn), hx]; exact kk)
theorem k_zast {cA : ClassId} {k N a : Nat} {f : Nat → Int32} {x y : Int32} (hexec : p.tables.exec = Jvm.exec) (hb : c.code = cc) (hK : va_K D vwCl T s) (hP : va_P D vwCl W0 H) (hD : va_D A W0) (hS : va_S A H0 H locs) (q0 t0 : Nat) (ha : W0[q0]? = some (a, .inl (cA, N, .inl (f)))) (ht : T[t0]? = some (cA, .boolean)) (hk : k < N) (hn : N < 2 ^ 31) (hx : vp_nar .boolean x = y) (hdg : decode cc pc = .ok (.bastore, 1)) (kk : ∀ (H1 : Heap) (locs1 : List Loc), va_P D vwCl (W0.set q0 (a, .inl (cA, N, .inl (upd f k y)))) H1 → va_D A (W0.set q0 (a, .inl (cA, N, .inl (upd f k y)))) → va_S A H0 H1 locs1 → W p l e R s m args below meth c H1 locs1 cells slots Q (F0 m (pc + 1) ls rest)) : W p l e R s m args below meth c H locs cells slots Q (F0 m pc ls (.int x :: .int (nI k) :: .ref a :: rest)) :=
  va_zast hexec hb hK hP hD hS q0 t0 ha ht (vp_in_nI hk hn) hdg (by rw [nI_clamp (Nat.lt_trans hk hn), hx]; exact kk)
theorem k_last {cA : ClassId} {k N a : Nat} {f : Nat → Int64} {x : Int64} (hexec : p.tables.exec = Jvm.exec) (hb : c.code = cc) (hK : va_K D vwCl T s) (hP : va_P D vwCl W0 H) (hD : va_D A W0) (hS : va_S A H0 H locs) (q0 t0 : Nat) (ha : W0[q0]? = some (a, .inl (cA, N, .inr (.inl (f))))) (ht : T[t0]? = some (cA, .long)) (hk : k < N) (hn : N < 2 ^ 31) (hdg : decode cc pc = .ok (.lastore, 1)) (kk : ∀ (H1 : Heap) (locs1 : List Loc), va_P D vwCl (W0.set q0 (a, .inl (cA, N, .inr (.inl (vp_updL f k x))))) H1 → va_D A (W0.set q0 (a, .inl (cA, N, .inr (.inl (vp_updL f k x))))) → va_S A H0 H1 locs1 → W p l e R s m args below meth c H1 locs1 cells slots Q (F0 m (pc + 1) ls rest)) : W p l e R s m args below meth c H locs cells slots Q (F0 m pc ls (.long x :: .int (nI k) :: .ref a :: rest)) :=
  va_last hexec hb hK hP hD hS q0 t0 ha ht (vp_in_nI hk hn) hdg (by rw [nI_clamp (Nat.lt_trans hk hn)]; exact kk)
theorem k_aldq {cA : ClassId} {C : String} {k N a b0 : Nat} {f : Nat → Option Nat} (hexec : p.tables.exec = Jvm.exec) (hb : c.code = cc) (hK : va_K D vwCl T s) (hP : va_P D vwCl W0 H) (q0 t0 : Nat) (ha : W0[q0]? = some (a, .inl (cA, N, .inr (.inr (.inr (.inr f)))))) (ht : T[t0]? = some (cA, .object C)) (hk : k < N) (hn : N < 2 ^ 31) (hf : f k = some b0) (hdg : decode cc pc = .ok (.aaload, 1)) (kk : W p l e R s m args below meth c H locs cells slots Q (F0 m (pc + 1) ls (.ref b0 :: rest))) : W p l e R s m args below meth c H locs cells slots Q (F0 m pc ls (.int (nI k) :: .ref a :: rest)) :=
  va_aldq hexec hb hK hP q0 t0 ha ht (vp_in_nI hk hn) hdg (by rw [nI_clamp (Nat.lt_trans hk hn), hf]; exact kk)
-- the top of the stack by another name
theorem k_topi {x y : Int32} (h : x = y) (kk : W p l e R s m args below meth c H locs cells slots Q (F0 m pc ls (.int y :: rest))) : W p l e R s m args below meth c H locs cells slots Q (F0 m pc ls (.int x :: rest)) := by rw [h]; exact kk
theorem k_topl {x y : Int64} (h : x = y) (kk : W p l e R s m args below meth c H locs cells slots Q (F0 m pc ls (.long y :: rest))) : W p l e R s m args below meth c H locs cells slots Q (F0 m pc ls (.long x :: rest)) := by rw [h]; exact kk
-- ends
theorem kr_i {v res : Int32} (hexec : p.tables.exec = Jvm.exec) (hb : c.code = cc) (hr : meth.sig.returnType = some .int) (hlocks : meth.locks = false) (hP : va_P D vwCl w1 H) (hD : va_D A w1) (hS : va_S A s.heap H locs) (hv : v = res) (hdg : decode cc pc = .ok (.ireturn, 1)) : W p l e R s m args below meth c H locs cells slots (MQ below (kQi D res w1 A) args s cells slots A) (F0 m pc ls [.int v]) :=
  W.iret hexec hb hr (fun t ht hW => ⟨⟨v, (), rfl, hv, And.intro (by rw [ht]; exact hP) hD⟩, hS.F ht⟩) hS.2.2 hdg
theorem kr_z {v res : Int32} (hexec : p.tables.exec = Jvm.exec) (hb : c.code = cc) (hr : meth.sig.returnType = some .boolean) (hlocks : meth.locks = false) (hn : narrow .boolean (.int v) = .int v) (hP : va_P D vwCl w1 H) (hD : va_D A w1) (hS : va_S A s.heap H locs) (hv : v = res) (hdg : decode cc pc = .ok (.ireturn, 1)) : W p l e R s m args below meth c H locs cells slots (MQ below (kQi D res w1 A) args s cells slots A) (F0 m pc ls [.int v]) :=
  W.zret hexec hb hr hn (fun t ht hW => ⟨⟨v, (), rfl, hv, And.intro (by rw [ht]; exact hP) hD⟩, hS.F ht⟩) hS.2.2 hdg
theorem kr_l {v res : Int64} (hexec : p.tables.exec = Jvm.exec) (hb : c.code = cc) (hr : meth.sig.returnType = some .long) (hlocks : meth.locks = false) (hP : va_P D vwCl w1 H) (hD : va_D A w1) (hS : va_S A s.heap H locs) (hv : v = res) (hdg : decode cc pc = .ok (.lreturn, 1)) : W p l e R s m args below meth c H locs cells slots (MQ below (kQl D res w1 A) args s cells slots A) (F0 m pc ls [.long v]) :=
  W.lret hexec hb hr (fun t ht hW => ⟨⟨v, (), rfl, hv, And.intro (by rw [ht]; exact hP) hD⟩, hS.F ht⟩) hS.2.2 hdg
theorem kr_v (hexec : p.tables.exec = Jvm.exec) (hb : c.code = cc) (hr : meth.sig.returnType = none) (hlocks : meth.locks = false) (hP : va_P D vwCl w1 H) (hD : va_D A w1) (hS : va_S A s.heap H locs) (hdg : decode cc pc = .ok (.return_, 1)) : W p l e R s m args below meth c H locs cells slots (MQ below (kQv D w1 A) args s cells slots A) (F0 m pc ls []) :=
  W.vret hexec hb hr (fun t ht hW => ⟨⟨(), rfl, trivial, And.intro (by rw [ht]; exact hP) hD⟩, hS.F ht⟩) hS.2.2 hdg
theorem kr_ix {σ : Type} {w1 : σ → va_W} {u : σ} {v res : Int32} (hexec : p.tables.exec = Jvm.exec) (hb : c.code = cc) (hr : meth.sig.returnType = some .int) (hlocks : meth.locks = false) (hP : va_P D vwCl (w1 u) H) (hD : va_D A (w1 u)) (hS : va_S A s.heap H locs) (hv : v = res) (hdg : decode cc pc = .ok (.ireturn, 1)) : W p l e R s m args below meth c H locs cells slots (MQ below (kQix D res w1 A) args s cells slots A) (F0 m pc ls [.int v]) :=
  W.iret hexec hb hr (fun t ht hW => ⟨⟨v, u, rfl, hv, And.intro (by rw [ht]; exact hP) hD⟩, hS.F ht⟩) hS.2.2 hdg
theorem kr_zx {σ : Type} {w1 : σ → va_W} {u : σ} {v res : Int32} (hexec : p.tables.exec = Jvm.exec) (hb : c.code = cc) (hr : meth.sig.returnType = some .boolean) (hlocks : meth.locks = false) (hn : narrow .boolean (.int v) = .int v) (hP : va_P D vwCl (w1 u) H) (hD : va_D A (w1 u)) (hS : va_S A s.heap H locs) (hv : v = res) (hdg : decode cc pc = .ok (.ireturn, 1)) : W p l e R s m args below meth c H locs cells slots (MQ below (kQix D res w1 A) args s cells slots A) (F0 m pc ls [.int v]) :=
  W.zret hexec hb hr hn (fun t ht hW => ⟨⟨v, u, rfl, hv, And.intro (by rw [ht]; exact hP) hD⟩, hS.F ht⟩) hS.2.2 hdg
theorem kr_lx {σ : Type} {w1 : σ → va_W} {u : σ} {v res : Int64} (hexec : p.tables.exec = Jvm.exec) (hb : c.code = cc) (hr : meth.sig.returnType = some .long) (hlocks : meth.locks = false) (hP : va_P D vwCl (w1 u) H) (hD : va_D A (w1 u)) (hS : va_S A s.heap H locs) (hv : v = res) (hdg : decode cc pc = .ok (.lreturn, 1)) : W p l e R s m args below meth c H locs cells slots (MQ below (kQlx D res w1 A) args s cells slots A) (F0 m pc ls [.long v]) :=
  W.lret hexec hb hr (fun t ht hW => ⟨⟨v, u, rfl, hv, And.intro (by rw [ht]; exact hP) hD⟩, hS.F ht⟩) hS.2.2 hdg
theorem kr_v0 (hexec : p.tables.exec = Jvm.exec) (hb : c.code = cc) (hr : meth.sig.returnType = none) (hlocks : meth.locks = false) (hS : va_S (fun _ => False) s.heap H locs) (hdg : decode cc pc = .ok (.return_, 1)) : W p l e R s m args below meth c H locs cells slots (MQ below kPv args s cells slots (fun _ => False)) (F0 m pc ls []) :=
  W.vret hexec hb hr (fun t ht hW => ⟨⟨(), rfl, trivial, trivial⟩, hS.F ht⟩) hS.2.2 hdg
theorem kr_d {v : UInt64} {P : UInt64 → Prop} (hexec : p.tables.exec = Jvm.exec) (hb : c.code = cc) (hr : meth.sig.returnType = some .double) (hlocks : meth.locks = false) (hP : va_P D vwCl w1 H) (hD : va_D A w1) (hS : va_S A s.heap H locs) (hv : P v) (hdg : decode cc pc = .ok (.dreturn, 1)) : W p l e R s m args below meth c H locs cells slots (MQ below (kQd D P w1 A) args s cells slots A) (F0 m pc ls [.double v]) :=
  W.dret hexec hb hr (fun t ht hW => ⟨⟨v, (), rfl, hv, And.intro (by rw [ht]; exact hP) hD⟩, hS.F ht⟩) hS.2.2 hdg
theorem kr_i0 {v res : Int32} (hexec : p.tables.exec = Jvm.exec) (hb : c.code = cc) (hr : meth.sig.returnType = some .int) (hlocks : meth.locks = false) (hS : va_S (fun _ => False) s.heap H locs) (hv : v = res) (hdg : decode cc pc = .ok (.ireturn, 1)) : W p l e R s m args below meth c H locs cells slots (MQ below (kPi res) args s cells slots (fun _ => False)) (F0 m pc ls [.int v]) :=
  W.iret hexec hb hr (fun t ht hW => ⟨⟨v, (), rfl, hv, trivial⟩, hS.F ht⟩) hS.2.2 hdg
theorem kr_z0 {v res : Int32} (hexec : p.tables.exec = Jvm.exec) (hb : c.code = cc) (hr : meth.sig.returnType = some .boolean) (hlocks : meth.locks = false) (hn : narrow .boolean (.int v) = .int v) (hS : va_S (fun _ => False) s.heap H locs) (hv : v = res) (hdg : decode cc pc = .ok (.ireturn, 1)) : W p l e R s m args below meth c H locs cells slots (MQ below (kPi res) args s cells slots (fun _ => False)) (F0 m pc ls [.int v]) :=
  W.zret hexec hb hr hn (fun t ht hW => ⟨⟨v, (), rfl, hv, trivial⟩, hS.F ht⟩) hS.2.2 hdg
theorem kr_l0 {v res : Int64} (hexec : p.tables.exec = Jvm.exec) (hb : c.code = cc) (hr : meth.sig.returnType = some .long) (hlocks : meth.locks = false) (hS : va_S (fun _ => False) s.heap H locs) (hv : v = res) (hdg : decode cc pc = .ok (.lreturn, 1)) : W p l e R s m args below meth c H locs cells slots (MQ below (kPl res) args s cells slots (fun _ => False)) (F0 m pc ls [.long v]) :=
  W.lret hexec hb hr (fun t ht hW => ⟨⟨v, (), rfl, hv, trivial⟩, hS.F ht⟩) hS.2.2 hdg
end KC
