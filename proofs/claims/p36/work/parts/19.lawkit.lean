/-! OUR OWN LAYER for the law: its world in blocks, its calls, its arguments, its tail; laid by program (wip/p36/gen/mk18.py) -/
def fmB (B : Nat → va_W) : List Nat → va_W
  | [] => []
  | i :: is => B i ++ fmB B is
theorem lx_app {B : Nat → va_W} : ∀ (is js : List Nat), fmB B (is ++ js) = fmB B is ++ fmB B js
  | [], _ => rfl
  | i :: is, js => by
    show B i ++ fmB B (is ++ js) = B i ++ fmB B is ++ fmB B js
    rw [lx_app is js, List.append_assoc]
theorem lx_perm {B : Nat → va_W} {is js : List Nat} (h : List.Perm is js) : List.Perm (fmB B is) (fmB B js) := by
  induction h with
  | nil => exact List.Perm.refl _
  | cons x _ ih => exact List.Perm.append_left (B x) ih
  | swap x y l =>
    show List.Perm (B y ++ (B x ++ fmB B l)) (B x ++ (B y ++ fmB B l))
    exact List.perm_append_comm_assoc _ _ _
  | trans _ _ ih1 ih2 => exact ih1.trans ih2
theorem lx_P {D : va_G} {cl : List vw_C} {W V : va_W} {H : Heap} (h : List.Perm W V) (hP : va_P D cl W H) : va_P D cl V H := by
  intro k q hk
  obtain ⟨i, hi⟩ := List.getElem?_of_mem (h.mem_iff.mpr (List.mem_of_getElem? hk))
  exact hP i q hi
theorem lx_nd1 {A : Nat → Prop} {W : va_W} (h : va_D A W) : W.Pairwise (fun a b => a.1 ≠ b.1) := by
  rw [List.pairwise_iff_getElem]
  intro i j hi hj hij e
  have h9 := h.1 i j _ _ (List.getElem?_eq_getElem hi) (List.getElem?_eq_getElem hj) e
  omega
theorem lx_nd2 {A : Nat → Prop} {W : va_W} (h : W.Pairwise (fun a b => a.1 ≠ b.1)) (hA : ∀ q, q ∈ W → A q.1) : va_D A W := by
  rw [List.pairwise_iff_getElem] at h
  refine ⟨fun i j p q hi hj e => ?_, fun k q hk => hA q (List.mem_of_getElem? hk)⟩
  obtain ⟨h1, rfl⟩ := List.getElem?_eq_some_iff.mp hi
  obtain ⟨h2, rfl⟩ := List.getElem?_eq_some_iff.mp hj
  rcases Nat.lt_trichotomy i j with q | q | q
  · exact absurd e (h i j h1 h2 q)
  · exact q
  · exact absurd e.symm (h j i h2 h1 q)
theorem lx_D {A : Nat → Prop} {W V : va_W} (h : List.Perm W V) (hD : va_D A W) : va_D A V :=
  lx_nd2 (h.pairwise (lx_nd1 hD) (fun e => Ne.symm e)) (fun q hq => by
    obtain ⟨i, hi⟩ := List.getElem?_of_mem (h.mem_iff.mpr hq)
    exact hD.2 i q hi)
theorem lx_rg {wc wr : va_W} {i : Nat} {q : Nat × va_E} (h : wr[i]? = some q) : (wc ++ wr)[wc.length + i]? = some q := by
  rw [List.getElem?_append_right (Nat.le_add_right _ _), Nat.add_sub_cancel_left]
  exact h
theorem lx_lf {wc wr : va_W} {i : Nat} {q : Nat × va_E} (h : wc[i]? = some q) : (wc ++ wr)[i]? = some q := by
  rw [List.getElem?_append_left (List.getElem?_eq_some_iff.mp h).1]
  exact h
theorem lx_lD {A : Nat → Prop} {wc wr : va_W} (h : va_D A (wc ++ wr)) : va_D A wc := ⟨fun i j p q hi hj e => h.1 i j p q (lx_lf hi) (lx_lf hj) e, fun k q hk => h.2 k q (lx_lf hk)⟩
theorem lx_rD {A : Nat → Prop} {wc wr : va_W} (h : va_D A (wc ++ wr)) : va_D A wr := ⟨fun i j p q hi hj e => by
  have h9 := h.1 _ _ p q (lx_rg hi) (lx_rg hj) e
  omega, fun k q hk => h.2 _ q (lx_rg hk)⟩
theorem lx_lP {D : va_G} {cl : List vw_C} {wc wr : va_W} {H : Heap} (h : va_P D cl (wc ++ wr) H) : va_P D cl wc H := fun k q hk => h k q (lx_lf hk)
theorem lx_free {A : Nat → Prop} {wc wr : va_W} {H0 H : Heap} {locs : List Loc} (hD : va_D A (wc ++ wr)) (hS : va_S A H0 H locs) (hA : ∀ q, H0.size ≤ q → A q) : ∀ q, va_A wc H.size q → A q := by
  intro q h
  rcases h with ⟨k, e, h⟩ | h
  · exact hD.2 k (q, e) (lx_lf h)
  · exact hA q (Nat.le_trans hS.1 h)
theorem lx_apart {D : va_G} {cl : List vw_C} {A : Nat → Prop} {wc wr : va_W} {H : Heap} (hP : va_P D cl (wc ++ wr) H) (hD : va_D A (wc ++ wr)) (i : Nat) (q : Nat × va_E) (hq : wr[i]? = some q) : q.1 < H.size ∧ ¬ va_A wc H.size q.1 := by
  have hl := (hP _ q (lx_rg hq)).lt
  refine ⟨hl, fun h => ?_⟩
  rcases h with ⟨k, e, h⟩ | h
  · have hk : k < wc.length := (List.getElem?_eq_some_iff.mp h).1
    have h9 := hD.1 _ _ q (q.1, e) (lx_rg hq) (lx_lf h) rfl
    omega
  · omega
theorem lx_joined {D : va_G} {A : Nat → Prop} {wc wr w1 : va_W} {H0 H H1 : Heap} {locs : List Loc} {t : State} (hP : va_P D vwCl (wc ++ wr) H) (hD : va_D A (wc ++ wr)) (hS : va_S A H0 H locs) (hA : ∀ q, H0.size ≤ q → A q)
    (hk : ∀ q : Nat, q < H.size → ¬ va_A wc H.size q → H1[q]? = H[q]?) (hB : kPost D w1 (va_A wc H.size) t) (ht : t.heap = H1) : va_P D vwCl (w1 ++ wr) H1 ∧ va_D A (w1 ++ wr) := by
  obtain ⟨hP1, hD1⟩ := hB
  rw [ht] at hP1
  refine ⟨va_P.app hP1 (fun k q hq => ?_), va_D.app (hD1.weaken (fun k q _ h => lx_free hD hS hA q.1 h)) (lx_rD hD) (fun i j x y hx hy hxy => ?_)⟩
  · obtain ⟨g1, g2⟩ := lx_apart hP hD k q hq
    exact (hP _ q (lx_rg hq)).kept (hk q.1 g1 g2)
  · exact (lx_apart hP hD j y hy).2 (by rw [← hxy]; exact hD1.2 i x hx)
theorem lx_split {D : va_G} {A : Nat → Prop} {B : Nat → va_W} {U isC isR : List Nat} {wc : va_W} {H : Heap} (hp : List.Perm U (isC ++ isR)) (hc : fmB B isC = wc) (hP : va_P D vwCl (fmB B U) H) (hD : va_D A (fmB B U)) : va_P D vwCl (wc ++ fmB B isR) H ∧ va_D A (wc ++ fmB B isR) := by
  have e : fmB B (isC ++ isR) = wc ++ fmB B isR := by rw [lx_app, hc]
  rw [← e]
  exact ⟨lx_P (lx_perm hp) hP, lx_D (lx_perm hp) hD⟩
theorem lx_back {D : va_G} {A : Nat → Prop} {B0 B1 : Nat → va_W} {U isC isR : List Nat} {w1 : va_W} {H : Heap} (hp : List.Perm U (isC ++ isR)) (hc : fmB B1 isC = w1) (hr : fmB B1 isR = fmB B0 isR) (h : va_P D vwCl (w1 ++ fmB B0 isR) H ∧ va_D A (w1 ++ fmB B0 isR)) : va_P D vwCl (fmB B1 U) H ∧ va_D A (fmB B1 U) := by
  have e : fmB B1 (isC ++ isR) = w1 ++ fmB B0 isR := by rw [lx_app, hc, hr]
  rw [← e] at h
  exact ⟨lx_P (lx_perm hp.symm) h.1, lx_D (lx_perm hp.symm) h.2⟩
theorem lx_blindXO {D : va_G} {sz : Nat} {W : va_W} {T : List (ClassId × FieldType)} {av : List Value} : FrameBlind (va_Pc av (fun U => kPreX D sz W T U ∧ kO U)) := fun a U g mk q => by
  obtain ⟨q0, q1, q2⟩ := q
  obtain ⟨r0, r1⟩ := k_blindX a U g mk ⟨q0, q1⟩
  exact ⟨r0, r1, kO.moved (u := U) (U := U.calling g mk a) (Vm.Alike.refl U.vm) q2⟩
section LQ
variable {p : Program} {l : Launch} {e : Env} {R : Room} {s : State} {m : MethodId} {args : Array Value} {below : List Frame} {meth : Method} {c : Code} {H : Heap} {locs : List Loc} {cells slots : Nat} {Q : State → Prop}
variable {cc : ByteArray} {pc : Nat} {ls : Array Slot} {rest st0 : List Value} {D : va_G} {T : List (ClassId × FieldType)} {A : Nat → Prop} {wc wr : va_W} {B0 : Nat → va_W} {U isC isR : List Nat}
variable {y : MethodName} {bytes : ByteArray} {maxL nL n index : Nat} {ret : Option FieldType} {ws Ts : List Cond} {rm : Room} {own C : String} {b : Nat} {As : List Value} {hh : List (Nat × Nat × Nat × Nat)}
theorem lx_preS (hN : kN s) (hP : va_P D vwCl (wc ++ wr) H) (hD : va_D A (wc ++ wr)) (hK : va_K D vwCl T s) : PreS s H (va_Pc As (kPre D H.size wc T)) As := by
  refine ⟨k_blind, fun U hU hW => ⟨rfl, by rw [hU], ?_, va_K.moved hW.alike hK, (lx_lD hD).weaken (fun _ _ _ _ => trivial), hN.warm hW⟩⟩
  rw [hU]
  exact lx_lP hP
theorem lx_preXO (hN : kN s) (hP : va_P D vwCl (wc ++ wr) H) (hD : va_D A (wc ++ wr)) (hK : va_K D vwCl T s) (hS : va_S A s.heap H locs) (hA : ∀ q, s.heap.size ≤ q → A q) (hE : kE A s s.heap) (hO : kO s) : PreS s H (va_Pc As (fun U => kPreX D H.size wc T U ∧ kO U)) As := by
  refine ⟨lx_blindXO, fun U hU hW => ⟨rfl, ⟨⟨by rw [hU], ?_, va_K.moved hW.alike hK, (lx_lD hD).weaken (fun _ _ _ _ => trivial), hN.warm hW⟩, ?_⟩, kO.moved hW.alike hO⟩⟩
  · rw [hU]
    exact lx_lP hP
  · rw [hU]
    exact hE.warm hW hS.2.1 (lx_free hD hS hA)
theorem lx_preV (hN : kN s) {q0 ci : Nat} {q : vw_C} {fs : List Value} (hP : va_P D vwCl (wc ++ wr) H) (hD : va_D A (wc ++ wr)) (hK : va_K D vwCl T s) (hcl : vwCl[ci]? = some q) (hC2 : q.1 = C) (hq : wc[q0]? = some (b, .inr (ci, fs))) : PreV s H C b (va_Pc (.ref b :: As) (kPre D H.size wc T)) As := by
  subst hC2
  exact ⟨k_blind, va_recv hK (lx_lP hP) hcl hq, (lx_preS (As := .ref b :: As) hN hP hD hK).2⟩
theorem lq_s {res : Int32} {w1 : va_W} {B1 : Nat → va_W} (S : CallFix p m c cc nL s args Ts own) (hM : Met l y ws rm (va_Pc As (kPre D H.size wc T)) (kQi D res w1 (va_A wc H.size)) 0 0 (va_A wc H.size)) (cw : vx_CSW R s args own index y bytes maxL ret hh ws rm 0 0 n)
    (hP : va_P D vwCl (fmB B0 U) H) (hD : va_D A (fmB B0 U)) (hK : va_K D vwCl T s) (hS : va_S A s.heap H locs) (hA : ∀ q, s.heap.size ≤ q → A q) (hN : kN s) (hp : List.Perm U (isC ++ isR)) (hc : fmB B0 isC = wc) (hc1 : fmB (B1) isC = w1) (hr : fmB (B1) isR = fmB B0 isR)
    (hn : As.length = n) (hsize : ls.size = nL) (hstack : st0 = As.reverse ++ rest) (hW : (rest.map fun v => v.category).sum ≤ 8) (hdg : decode cc pc = .ok (.invokestatic index, 3)) (hf : cells ≤ R.cells ∧ slots ≤ R.slots)
    (kk : ∀ (H1 : Heap) (locs1 : List Loc), va_P D vwCl (fmB (B1) U) H1 → va_D A (fmB (B1) U) → va_S A s.heap H1 locs1 → W p l e R s m args below meth c H1 locs1 cells slots Q (F0 m (pc + 3) ls (.int res :: rest))) : W p l e R s m args below meth c H locs cells slots Q (F0 m pc ls st0) := by
  obtain ⟨hPp, hDp⟩ := lx_split hp hc hP hD
  have hf2 := lx_free hDp hS hA
  refine va_calli (vx_runSW S hM cw (lx_preS hN hPp hDp hK) rfl hn hsize hstack (lv_room hW) hdg hf) hS (fun q _ h => hf2 q h) hf2 (fun r u t H1 locs1 ht hvm hw hB hz hk hS1 => ?_)
  obtain ⟨h1, h2⟩ := lx_back hp (hc1) (hr) (lx_joined hPp hDp hS hA hk hB ht)
  subst hw
  exact kk H1 locs1 h1 h2 hS1
theorem lq_sx {σ : Type} {res : Int32} {w1 : σ → va_W} {B1 : σ → Nat → va_W} (S : CallFix p m c cc nL s args Ts own) (hM : Met l y ws rm (va_Pc As (kPre D H.size wc T)) (kQix D res w1 (va_A wc H.size)) 0 0 (va_A wc H.size)) (cw : vx_CSW R s args own index y bytes maxL ret hh ws rm 0 0 n)
    (hP : va_P D vwCl (fmB B0 U) H) (hD : va_D A (fmB B0 U)) (hK : va_K D vwCl T s) (hS : va_S A s.heap H locs) (hA : ∀ q, s.heap.size ≤ q → A q) (hN : kN s) (hp : List.Perm U (isC ++ isR)) (hc : fmB B0 isC = wc) (hc1 : ∀ u, fmB (B1 u) isC = w1 u) (hr : ∀ u, fmB (B1 u) isR = fmB B0 isR)
    (hn : As.length = n) (hsize : ls.size = nL) (hstack : st0 = As.reverse ++ rest) (hW : (rest.map fun v => v.category).sum ≤ 8) (hdg : decode cc pc = .ok (.invokestatic index, 3)) (hf : cells ≤ R.cells ∧ slots ≤ R.slots)
    (kk : ∀ (u : σ) (H1 : Heap) (locs1 : List Loc), va_P D vwCl (fmB (B1 u) U) H1 → va_D A (fmB (B1 u) U) → va_S A s.heap H1 locs1 → W p l e R s m args below meth c H1 locs1 cells slots Q (F0 m (pc + 3) ls (.int res :: rest))) : W p l e R s m args below meth c H locs cells slots Q (F0 m pc ls st0) := by
  obtain ⟨hPp, hDp⟩ := lx_split hp hc hP hD
  have hf2 := lx_free hDp hS hA
  refine va_calli (vx_runSW S hM cw (lx_preS hN hPp hDp hK) rfl hn hsize hstack (lv_room hW) hdg hf) hS (fun q _ h => hf2 q h) hf2 (fun r u t H1 locs1 ht hvm hw hB hz hk hS1 => ?_)
  obtain ⟨h1, h2⟩ := lx_back hp (hc1 u) (hr u) (lx_joined hPp hDp hS hA hk hB ht)
  subst hw
  exact kk u H1 locs1 h1 h2 hS1
theorem lq_sb {res : Int32} {w1 : va_W} {B1 : Nat → va_W} (S : CallFix p m c cc nL s args Ts own) (hM : Met l y ws rm (va_Pc As (fun U => kPreX D H.size wc T U ∧ kO U)) (kQi D res w1 (va_A wc H.size)) 1 6 (va_A wc H.size)) (cw : vx_CSW R s args own index y bytes maxL ret hh ws rm 1 6 n)
    (hP : va_P D vwCl (fmB B0 U) H) (hD : va_D A (fmB B0 U)) (hK : va_K D vwCl T s) (hS : va_S A s.heap H locs) (hA : ∀ q, s.heap.size ≤ q → A q) (hN : kN s) (hE : kE A s s.heap) (hO : kO s) (hp : List.Perm U (isC ++ isR)) (hc : fmB B0 isC = wc) (hc1 : fmB (B1) isC = w1) (hr : fmB (B1) isR = fmB B0 isR)
    (hn : As.length = n) (hsize : ls.size = nL) (hstack : st0 = As.reverse ++ rest) (hW : (rest.map fun v => v.category).sum ≤ 8) (hdg : decode cc pc = .ok (.invokestatic index, 3)) (hf : cells + 1 ≤ R.cells ∧ slots + 6 ≤ R.slots)
    (kk : ∀ (H1 : Heap) (locs1 : List Loc), va_P D vwCl (fmB (B1) U) H1 → va_D A (fmB (B1) U) → va_S A s.heap H1 locs1 → W p l e R s m args below meth c H1 locs1 (cells + 1) (slots + 6) Q (F0 m (pc + 3) ls (.int res :: rest))) : W p l e R s m args below meth c H locs cells slots Q (F0 m pc ls st0) := by
  obtain ⟨hPp, hDp⟩ := lx_split hp hc hP hD
  have hf2 := lx_free hDp hS hA
  refine va_calli (vx_runSW S hM cw (lx_preXO hN hPp hDp hK hS hA hE hO) rfl hn hsize hstack (lv_room hW) hdg hf) hS (fun q _ h => hf2 q h) hf2 (fun r u t H1 locs1 ht hvm hw hB hz hk hS1 => ?_)
  obtain ⟨h1, h2⟩ := lx_back hp (hc1) (hr) (lx_joined hPp hDp hS hA hk hB ht)
  subst hw
  exact kk H1 locs1 h1 h2 hS1
theorem lq_v {res : Int32} {w1 : va_W} {B1 : Nat → va_W} (S : CallFix p m c cc nL s args Ts own) (hM : Met l y ws rm (va_Pc (.ref b :: As) (kPre D H.size wc T)) (kQi D res w1 (va_A wc H.size)) 0 0 (va_A wc H.size)) (cw : CallW R s args own C index y bytes maxL ret ws rm 0 0 n)
    (hP : va_P D vwCl (fmB B0 U) H) (hD : va_D A (fmB B0 U)) (hK : va_K D vwCl T s) (hS : va_S A s.heap H locs) (hA : ∀ q, s.heap.size ≤ q → A q) (hN : kN s) (hp : List.Perm U (isC ++ isR)) (hc : fmB B0 isC = wc) (hc1 : fmB (B1) isC = w1) (hr : fmB (B1) isR = fmB B0 isR)
    (q0 ci : Nat) {q : vw_C} {fs : List Value} (hcl : vwCl[ci]? = some q) (hC2 : q.1 = C) (hq : wc[q0]? = some (b, .inr (ci, fs))) (hn : As.length = n) (hsize : ls.size = nL) (hstack : st0 = As.reverse ++ .ref b :: rest) (hW : (rest.map fun v => v.category).sum ≤ 8) (hdg : decode cc pc = .ok (.invokevirtual index, 3)) (hf : cells ≤ R.cells ∧ slots ≤ R.slots)
    (kk : ∀ (H1 : Heap) (locs1 : List Loc), va_P D vwCl (fmB (B1) U) H1 → va_D A (fmB (B1) U) → va_S A s.heap H1 locs1 → W p l e R s m args below meth c H1 locs1 cells slots Q (F0 m (pc + 3) ls (.int res :: rest))) : W p l e R s m args below meth c H locs cells slots Q (F0 m pc ls st0) := by
  obtain ⟨hPp, hDp⟩ := lx_split hp hc hP hD
  have hf2 := lx_free hDp hS hA
  refine va_calli (va_runV S hM cw (lx_preV hN hPp hDp hK hcl hC2 hq) rfl hn hsize hstack (lv_room hW) hdg hf) hS (fun q _ h => hf2 q h) hf2 (fun r u t H1 locs1 ht hvm hw hB hz hk hS1 => ?_)
  obtain ⟨h1, h2⟩ := lx_back hp (hc1) (hr) (lx_joined hPp hDp hS hA hk hB ht)
  subst hw
  exact kk H1 locs1 h1 h2 hS1
theorem lq_vx {σ : Type} {res : Int32} {w1 : σ → va_W} {B1 : σ → Nat → va_W} (S : CallFix p m c cc nL s args Ts own) (hM : Met l y ws rm (va_Pc (.ref b :: As) (kPre D H.size wc T)) (kQix D res w1 (va_A wc H.size)) 0 0 (va_A wc H.size)) (cw : CallW R s args own C index y bytes maxL ret ws rm 0 0 n)
    (hP : va_P D vwCl (fmB B0 U) H) (hD : va_D A (fmB B0 U)) (hK : va_K D vwCl T s) (hS : va_S A s.heap H locs) (hA : ∀ q, s.heap.size ≤ q → A q) (hN : kN s) (hp : List.Perm U (isC ++ isR)) (hc : fmB B0 isC = wc) (hc1 : ∀ u, fmB (B1 u) isC = w1 u) (hr : ∀ u, fmB (B1 u) isR = fmB B0 isR)
    (q0 ci : Nat) {q : vw_C} {fs : List Value} (hcl : vwCl[ci]? = some q) (hC2 : q.1 = C) (hq : wc[q0]? = some (b, .inr (ci, fs))) (hn : As.length = n) (hsize : ls.size = nL) (hstack : st0 = As.reverse ++ .ref b :: rest) (hW : (rest.map fun v => v.category).sum ≤ 8) (hdg : decode cc pc = .ok (.invokevirtual index, 3)) (hf : cells ≤ R.cells ∧ slots ≤ R.slots)
    (kk : ∀ (u : σ) (H1 : Heap) (locs1 : List Loc), va_P D vwCl (fmB (B1 u) U) H1 → va_D A (fmB (B1 u) U) → va_S A s.heap H1 locs1 → W p l e R s m args below meth c H1 locs1 cells slots Q (F0 m (pc + 3) ls (.int res :: rest))) : W p l e R s m args below meth c H locs cells slots Q (F0 m pc ls st0) := by
  obtain ⟨hPp, hDp⟩ := lx_split hp hc hP hD
  have hf2 := lx_free hDp hS hA
  refine va_calli (va_runV S hM cw (lx_preV hN hPp hDp hK hcl hC2 hq) rfl hn hsize hstack (lv_room hW) hdg hf) hS (fun q _ h => hf2 q h) hf2 (fun r u t H1 locs1 ht hvm hw hB hz hk hS1 => ?_)
  obtain ⟨h1, h2⟩ := lx_back hp (hc1 u) (hr u) (lx_joined hPp hDp hS hA hk hB ht)
  subst hw
  exact kk u H1 locs1 h1 h2 hS1
theorem lq_l {res : Int64} {w1 : va_W} {B1 : Nat → va_W} (S : CallFix p m c cc nL s args Ts own) (hM : Met l y ws rm (va_Pc (.ref b :: As) (kPre D H.size wc T)) (kQl D res w1 (va_A wc H.size)) 0 0 (va_A wc H.size)) (cw : CallW R s args own C index y bytes maxL ret ws rm 0 0 n)
    (hP : va_P D vwCl (fmB B0 U) H) (hD : va_D A (fmB B0 U)) (hK : va_K D vwCl T s) (hS : va_S A s.heap H locs) (hA : ∀ q, s.heap.size ≤ q → A q) (hN : kN s) (hp : List.Perm U (isC ++ isR)) (hc : fmB B0 isC = wc) (hc1 : fmB (B1) isC = w1) (hr : fmB (B1) isR = fmB B0 isR)
    (q0 ci : Nat) {q : vw_C} {fs : List Value} (hcl : vwCl[ci]? = some q) (hC2 : q.1 = C) (hq : wc[q0]? = some (b, .inr (ci, fs))) (hn : As.length = n) (hsize : ls.size = nL) (hstack : st0 = As.reverse ++ .ref b :: rest) (hW : (rest.map fun v => v.category).sum ≤ 8) (hdg : decode cc pc = .ok (.invokevirtual index, 3)) (hf : cells ≤ R.cells ∧ slots ≤ R.slots)
    (kk : ∀ (H1 : Heap) (locs1 : List Loc), va_P D vwCl (fmB (B1) U) H1 → va_D A (fmB (B1) U) → va_S A s.heap H1 locs1 → W p l e R s m args below meth c H1 locs1 cells slots Q (F0 m (pc + 3) ls (.long res :: rest))) : W p l e R s m args below meth c H locs cells slots Q (F0 m pc ls st0) := by
  obtain ⟨hPp, hDp⟩ := lx_split hp hc hP hD
  have hf2 := lx_free hDp hS hA
  refine va_calll (va_runV S hM cw (lx_preV hN hPp hDp hK hcl hC2 hq) rfl hn hsize hstack (lv_room hW) hdg hf) hS (fun q _ h => hf2 q h) hf2 (fun r u t H1 locs1 ht hvm hw hB hz hk hS1 => ?_)
  obtain ⟨h1, h2⟩ := lx_back hp (hc1) (hr) (lx_joined hPp hDp hS hA hk hB ht)
  subst hw
  exact kk H1 locs1 h1 h2 hS1
theorem lq_lx {σ : Type} {res : Int64} {w1 : σ → va_W} {B1 : σ → Nat → va_W} (S : CallFix p m c cc nL s args Ts own) (hM : Met l y ws rm (va_Pc (.ref b :: As) (kPre D H.size wc T)) (kQlx D res w1 (va_A wc H.size)) 0 0 (va_A wc H.size)) (cw : CallW R s args own C index y bytes maxL ret ws rm 0 0 n)
    (hP : va_P D vwCl (fmB B0 U) H) (hD : va_D A (fmB B0 U)) (hK : va_K D vwCl T s) (hS : va_S A s.heap H locs) (hA : ∀ q, s.heap.size ≤ q → A q) (hN : kN s) (hp : List.Perm U (isC ++ isR)) (hc : fmB B0 isC = wc) (hc1 : ∀ u, fmB (B1 u) isC = w1 u) (hr : ∀ u, fmB (B1 u) isR = fmB B0 isR)
    (q0 ci : Nat) {q : vw_C} {fs : List Value} (hcl : vwCl[ci]? = some q) (hC2 : q.1 = C) (hq : wc[q0]? = some (b, .inr (ci, fs))) (hn : As.length = n) (hsize : ls.size = nL) (hstack : st0 = As.reverse ++ .ref b :: rest) (hW : (rest.map fun v => v.category).sum ≤ 8) (hdg : decode cc pc = .ok (.invokevirtual index, 3)) (hf : cells ≤ R.cells ∧ slots ≤ R.slots)
    (kk : ∀ (u : σ) (H1 : Heap) (locs1 : List Loc), va_P D vwCl (fmB (B1 u) U) H1 → va_D A (fmB (B1 u) U) → va_S A s.heap H1 locs1 → W p l e R s m args below meth c H1 locs1 cells slots Q (F0 m (pc + 3) ls (.long res :: rest))) : W p l e R s m args below meth c H locs cells slots Q (F0 m pc ls st0) := by
  obtain ⟨hPp, hDp⟩ := lx_split hp hc hP hD
  have hf2 := lx_free hDp hS hA
  refine va_calll (va_runV S hM cw (lx_preV hN hPp hDp hK hcl hC2 hq) rfl hn hsize hstack (lv_room hW) hdg hf) hS (fun q _ h => hf2 q h) hf2 (fun r u t H1 locs1 ht hvm hw hB hz hk hS1 => ?_)
  obtain ⟨h1, h2⟩ := lx_back hp (hc1 u) (hr u) (lx_joined hPp hDp hS hA hk hB ht)
  subst hw
  exact kk u H1 locs1 h1 h2 hS1
theorem lq_d {Pd : UInt64 → Prop} {w1 : va_W} {B1 : Nat → va_W} {d0 : Drawn} (hd0 : s.drawn.sameBut d0 lw_cs) (S : CallFix p m c cc nL (s.setDrawn d0) args Ts own) (hM : MetD lw_cs l y ws rm (va_Pc (.ref b :: As) (kPre D H.size wc T)) (kQd D Pd w1 (va_A wc H.size)) 0 0 (va_A wc H.size)) (cw : CallW R (s.setDrawn d0) args own C index y bytes maxL ret ws rm 0 0 n)
    (hP : va_P D vwCl (fmB B0 U) H) (hD : va_D A (fmB B0 U)) (hK : va_K D vwCl T (s.setDrawn d0)) (hS : va_S A s.heap H locs) (hA : ∀ q, s.heap.size ≤ q → A q) (hN : kN (s.setDrawn d0)) (hp : List.Perm U (isC ++ isR)) (hc : fmB B0 isC = wc) (hc1 : fmB (B1) isC = w1) (hr : fmB (B1) isR = fmB B0 isR)
    (q0 ci : Nat) {q : vw_C} {fs : List Value} (hcl : vwCl[ci]? = some q) (hC2 : q.1 = C) (hq : wc[q0]? = some (b, .inr (ci, fs))) (hn : As.length = n) (hsize : ls.size = nL) (hstack : st0 = As.reverse ++ .ref b :: rest) (hW : (rest.map fun v => v.category).sum ≤ 8) (hdg : decode cc pc = .ok (.invokevirtual index, 3)) (hf : cells ≤ R.cells ∧ slots ≤ R.slots)
    (kk : ∀ (r : UInt64) (H1 : Heap) (locs1 : List Loc), Pd r → va_P D vwCl (fmB (B1) U) H1 → va_D A (fmB (B1) U) → va_S A s.heap H1 locs1 → ∀ d1 : Drawn, s.drawn.sameBut d1 lw_cs → W p l e R (s.setDrawn d1) m args below meth c H1 locs1 cells slots Q (F0 m (pc + 3) ls (.double r :: rest))) : W p l e R (s.setDrawn d0) m args below meth c H locs cells slots Q (F0 m pc ls st0) := by
  obtain ⟨hPp, hDp⟩ := lx_split hp hc hP hD
  have hf2 := lx_free hDp hS hA
  refine va_calldD hd0 (va_runV_D S hM cw (lx_preV hN hPp hDp hK hcl hC2 hq) rfl hn hsize hstack (lv_room hW) hdg hf) hS (fun q _ h => hf2 q h) hf2 (fun r u t H1 locs1 ht hvm hw hB hz hk hS1 d1 hd1 => ?_)
  obtain ⟨h1, h2⟩ := lx_back hp (hc1) (hr) (lx_joined hPp hDp hS hA hk hB ht)
  exact kk r H1 locs1 hw h1 h2 hS1 d1 hd1
end LQ
/-! the object whole: its world, its contracts, their calls -/
abbrev OS : Type := StV × Nat × Nat × (Nat → StV) × (Nat → Int64) × Int32 × Int32 × Int32
abbrev LB (cI cC cJ cZ cQ : ClassId) (x0 a0 a1 a2 a3 a4 a5 a6 v0 v1 t0 t1 h0 u0 u1 : Nat) (pa : Nat → Nat) (rg : Nat → Option Nat) (z : StV) (nx cnt : Nat) (S : Nat → StV) (wd : Nat → Int64) (hv hk hc : Int32) : Nat → va_W := fun i => match i with
  | 0 => [(x0, .inr (7, [.ref a0, .ref v0, .ref t0, .ref h0, .ref u0]))]
  | 1 => [(a0, .inr (2, [.int z.1, .int z.2.1, .int z.2.2.1, .int z.2.2.2.1, .int z.2.2.2.2.1, .ref a1, .ref a3])), (a1, .inr (6, [.ref a2, .int (nI z.2.2.2.2.2.1)])), (a2, .inl (cI, 12, .inl z.2.2.2.2.2.2.2.1)), (a3, .inr (0, [.ref a4, .ref a5, .ref a6, .int (nI z.2.2.2.2.2.2.1)])), (a4, .inl (cI, 8, .inl z.2.2.2.2.2.2.2.2.1)), (a5, .inl (cI, 8, .inl z.2.2.2.2.2.2.2.2.2.1)), (a6, .inl (cI, 8, .inl z.2.2.2.2.2.2.2.2.2.2))]
  | 2 => [(v0, .inr (1, [.ref v1, .int (nI nx), .int (nI cnt)]))]
  | 3 => [(v1, .inl (cQ, 6, .inr (.inr (.inr (.inr rg)))))]
  | 4 => [((pa 0), .inr (2, [.int ((S 0).1), .int ((S 0).2.1), .int ((S 0).2.2.1), .int ((S 0).2.2.2.1), .int ((S 0).2.2.2.2.1), .ref (pa 1), .ref (pa 3)])), ((pa 1), .inr (6, [.ref (pa 2), .int (nI ((S 0).2.2.2.2.2.1))])), ((pa 2), .inl (cI, 12, .inl ((S 0).2.2.2.2.2.2.2.1))), ((pa 3), .inr (0, [.ref (pa 4), .ref (pa 5), .ref (pa 6), .int (nI ((S 0).2.2.2.2.2.2.1))])), ((pa 4), .inl (cI, 8, .inl ((S 0).2.2.2.2.2.2.2.2.1))), ((pa 5), .inl (cI, 8, .inl ((S 0).2.2.2.2.2.2.2.2.2.1))), ((pa 6), .inl (cI, 8, .inl ((S 0).2.2.2.2.2.2.2.2.2.2))), ((pa 7), .inr (2, [.int ((S 1).1), .int ((S 1).2.1), .int ((S 1).2.2.1), .int ((S 1).2.2.2.1), .int ((S 1).2.2.2.2.1), .ref (pa 8), .ref (pa 10)])), ((pa 8), .inr (6, [.ref (pa 9), .int (nI ((S 1).2.2.2.2.2.1))])), ((pa 9), .inl (cI, 12, .inl ((S 1).2.2.2.2.2.2.2.1))), ((pa 10), .inr (0, [.ref (pa 11), .ref (pa 12), .ref (pa 13), .int (nI ((S 1).2.2.2.2.2.2.1))])), ((pa 11), .inl (cI, 8, .inl ((S 1).2.2.2.2.2.2.2.2.1))), ((pa 12), .inl (cI, 8, .inl ((S 1).2.2.2.2.2.2.2.2.2.1))), ((pa 13), .inl (cI, 8, .inl ((S 1).2.2.2.2.2.2.2.2.2.2))), ((pa 14), .inr (2, [.int ((S 2).1), .int ((S 2).2.1), .int ((S 2).2.2.1), .int ((S 2).2.2.2.1), .int ((S 2).2.2.2.2.1), .ref (pa 15), .ref (pa 17)])), ((pa 15), .inr (6, [.ref (pa 16), .int (nI ((S 2).2.2.2.2.2.1))])), ((pa 16), .inl (cI, 12, .inl ((S 2).2.2.2.2.2.2.2.1))), ((pa 17), .inr (0, [.ref (pa 18), .ref (pa 19), .ref (pa 20), .int (nI ((S 2).2.2.2.2.2.2.1))])), ((pa 18), .inl (cI, 8, .inl ((S 2).2.2.2.2.2.2.2.2.1))), ((pa 19), .inl (cI, 8, .inl ((S 2).2.2.2.2.2.2.2.2.2.1))), ((pa 20), .inl (cI, 8, .inl ((S 2).2.2.2.2.2.2.2.2.2.2))), ((pa 21), .inr (2, [.int ((S 3).1), .int ((S 3).2.1), .int ((S 3).2.2.1), .int ((S 3).2.2.2.1), .int ((S 3).2.2.2.2.1), .ref (pa 22), .ref (pa 24)])), ((pa 22), .inr (6, [.ref (pa 23), .int (nI ((S 3).2.2.2.2.2.1))])), ((pa 23), .inl (cI, 12, .inl ((S 3).2.2.2.2.2.2.2.1))), ((pa 24), .inr (0, [.ref (pa 25), .ref (pa 26), .ref (pa 27), .int (nI ((S 3).2.2.2.2.2.2.1))])), ((pa 25), .inl (cI, 8, .inl ((S 3).2.2.2.2.2.2.2.2.1))), ((pa 26), .inl (cI, 8, .inl ((S 3).2.2.2.2.2.2.2.2.2.1))), ((pa 27), .inl (cI, 8, .inl ((S 3).2.2.2.2.2.2.2.2.2.2))), ((pa 28), .inr (2, [.int ((S 4).1), .int ((S 4).2.1), .int ((S 4).2.2.1), .int ((S 4).2.2.2.1), .int ((S 4).2.2.2.2.1), .ref (pa 29), .ref (pa 31)])), ((pa 29), .inr (6, [.ref (pa 30), .int (nI ((S 4).2.2.2.2.2.1))])), ((pa 30), .inl (cI, 12, .inl ((S 4).2.2.2.2.2.2.2.1))), ((pa 31), .inr (0, [.ref (pa 32), .ref (pa 33), .ref (pa 34), .int (nI ((S 4).2.2.2.2.2.2.1))])), ((pa 32), .inl (cI, 8, .inl ((S 4).2.2.2.2.2.2.2.2.1))), ((pa 33), .inl (cI, 8, .inl ((S 4).2.2.2.2.2.2.2.2.2.1))), ((pa 34), .inl (cI, 8, .inl ((S 4).2.2.2.2.2.2.2.2.2.2))), ((pa 35), .inr (2, [.int ((S 5).1), .int ((S 5).2.1), .int ((S 5).2.2.1), .int ((S 5).2.2.2.1), .int ((S 5).2.2.2.2.1), .ref (pa 36), .ref (pa 38)])), ((pa 36), .inr (6, [.ref (pa 37), .int (nI ((S 5).2.2.2.2.2.1))])), ((pa 37), .inl (cI, 12, .inl ((S 5).2.2.2.2.2.2.2.1))), ((pa 38), .inr (0, [.ref (pa 39), .ref (pa 40), .ref (pa 41), .int (nI ((S 5).2.2.2.2.2.2.1))])), ((pa 39), .inl (cI, 8, .inl ((S 5).2.2.2.2.2.2.2.2.1))), ((pa 40), .inl (cI, 8, .inl ((S 5).2.2.2.2.2.2.2.2.2.1))), ((pa 41), .inl (cI, 8, .inl ((S 5).2.2.2.2.2.2.2.2.2.2)))]
  | 5 => [(t0, .inr (5, [.ref t1, .int (nI 0)])), (t1, .inl (cC, 60, .inl (fun _ => 0)))]
  | 6 => [(h0, .inr (4, [.int hv, .int hk, .int hc]))]
  | 7 => [(u0, .inr (3, [.ref u1])), (u1, .inl (cJ, 64, .inr (.inl wd)))]
  | _ => []
abbrev oPre (D : va_G) (sz : Nat) (W : va_W) (T : List (ClassId × FieldType)) : State → Prop := fun U => kPreX D sz W T U ∧ kO U
def oQi {σ : Type} (D : va_G) (P : Int32 → σ → Prop) (w1 : σ → va_W) (A : Nat → Prop) : Array Value → State → Outcome → State → Prop := va_Qi (fun (r : Int32) (u : σ) => P r u) (fun u => kPost D (w1 u) A) A
def oQl {σ : Type} (D : va_G) (P : Int64 → σ → Prop) (w1 : σ → va_W) (A : Nat → Prop) : Array Value → State → Outcome → State → Prop := va_Ql (fun (r : Int64) (u : σ) => P r u) (fun u => kPost D (w1 u) A) A
theorem k_metO {l : Launch} {D : va_G} {sz : Nat} {W0 : va_W} {T : List (ClassId × FieldType)} {y : MethodName} {ws ws' : List Cond} {rm : Room} {Qf : (Nat → Prop) → Array Value → State → Outcome → State → Prop} {mc ms : Nat} {cc : ByteArray} {maxL : Nat} {ret : Option FieldType} {av : List Value} {own : String}
    (hy : plainName y.cls = true) (hw : ws = Cond.code y cc maxL ret :: ws') (hlen : (lg_sl av).length ≤ maxL) (ho : y.cls = own)
    (body : ∀ (p : Program) (e : Env) (s : State) (m : MethodId) (args : Array Value) (below : List Frame) (meth : Method) (c : Code) (ls : Array Slot) (A : Nat → Prop) (H : Heap) (locs : List Loc), p.tables.exec = Jvm.exec → c.code = cc → meth.sig.returnType = ret → (∀ w ∈ ws, w.before args s = true) → s.vm.findClass own = some m.cls → meth.locks = false → c.maxLocals = maxL → H.size = sz → va_P D vwCl W0 H → va_K D vwCl T s → va_D A W0 → (∀ q : Nat, s.heap.size ≤ q → A q) → va_S A s.heap H locs → kN s → kE A s s.heap → kO s → lv_has ls maxL (lv_args 0 av) →
      W p l e rm s m args below meth c H locs 0 0 (MQ below (Qf A) args s mc ms A) (F0 m 0 ls [])) : Met l y ws rm (va_Pc av (oPre D sz W0 T)) (Qf (va_A W0 sz)) mc ms (va_A W0 sz) := by
  refine Met.ofW (cc := cc) (maxL := maxL) (ret := ret) hy hw ?_
  intro p e s m args below meth c s₁ B hml hv
  obtain ⟨rfl, ⟨⟨hsz, hP, hK, hD0, hN⟩, hE⟩, hO⟩ := hv
  subst hsz
  rw [lg_entry_eq]
  refine body p e s m _ below meth c _ (va_A W0 s.heap.size) s.heap [] B.exec B.bytes B.returns (atoms_spec (ws := ws) B.pre) ?_ B.notSynchronized hml rfl hP hK hD0.self (fun q h => Or.inr h) va_S.rf hN hE hO (lv_entry av hlen)
  rw [← ho]
  exact findClass_of_methodNamed B.named
theorem ko_drawn {s : State} {D : va_G} {T : List (ClassId × FieldType)} {A : Nat → Prop} (d : Drawn) (hK : va_K D vwCl T s) (hN : kN s) (hE : kE A s s.heap) (hO : kO s) : va_K D vwCl T (s.setDrawn d) ∧ kN (s.setDrawn d) ∧ kE A (s.setDrawn d) (s.setDrawn d).heap ∧ kO (s.setDrawn d) :=
  ⟨va_K.moved (Vm.Alike.refl _) hK, hN.same rfl, ⟨vx_Zq.moved (Vm.Alike.refl _) hE.1, vx_Zq.moved (Vm.Alike.refl _) hE.2.1, hE.2.2.1.same rfl, hE.2.2.2.1.same rfl, hE.2.2.2.2.same rfl⟩, kO.moved (Vm.Alike.refl _) hO⟩
theorem k_metOD {l : Launch} {D : va_G} {sz : Nat} {W0 : va_W} {T : List (ClassId × FieldType)} {y : MethodName} {ws ws' : List Cond} {rm : Room} {Qf : (Nat → Prop) → Array Value → State → Outcome → State → Prop} {mc ms : Nat} {cc : ByteArray} {maxL : Nat} {ret : Option FieldType} {av : List Value} {own : String}
    (hy : plainName y.cls = true) (hw : ws = Cond.code y cc maxL ret :: ws') (hlen : (lg_sl av).length ≤ maxL) (ho : y.cls = own)
    (body : ∀ (p : Program) (e : Env) (s s1 : State) (m : MethodId) (args : Array Value) (below : List Frame) (meth : Method) (c : Code) (ls : Array Slot) (A : Nat → Prop) (H : Heap) (locs : List Loc), p.tables.exec = Jvm.exec → c.code = cc → meth.sig.returnType = ret → (∀ w ∈ ws, w.before args s1 = true) → s1.vm.findClass own = some m.cls → meth.locks = false → c.maxLocals = maxL → H.size = sz → va_P D vwCl W0 H → va_K D vwCl T s1 → va_D A W0 → (∀ q : Nat, s1.heap.size ≤ q → A q) → va_S A s1.heap H locs → kN s1 → kE A s1 s1.heap → kO s1 → s1 = s.setDrawn s.drawn → s.drawn.sameBut s.drawn lw_cs → lv_has ls maxL (lv_args 0 av) →
      W p l e rm s1 m args below meth c H locs 0 0 (MQD lw_cs below (Qf A) args s mc ms A) (F0 m 0 ls [])) : MetD lw_cs l y ws rm (va_Pc av (oPre D sz W0 T)) (Qf (va_A W0 sz)) mc ms (va_A W0 sz) := by
  refine MetD.ofW (cc := cc) (maxL := maxL) (ret := ret) hy hw ?_
  intro p e s m args below meth c s₁ B hml hv hd0
  obtain ⟨rfl, ⟨⟨hsz, hP, hK, hD0, hN⟩, hE⟩, hO⟩ := hv
  subst hsz
  rw [lg_entry_eq]
  obtain ⟨hK1, hN1, hE1, hO1⟩ := ko_drawn s.drawn hK hN hE hO
  refine body p e s (s.setDrawn s.drawn) m _ below meth c _ (va_A W0 s.heap.size) s.heap [] B.exec B.bytes B.returns (dr_words (atoms_spec (ws := ws) B.pre) _) ?_ B.notSynchronized hml rfl hP hK1 hD0.self (fun q h => Or.inr h) va_S.rf hN1 hE1 hO1 rfl hd0 (lv_entry av hlen)
  rw [← ho]
  exact findClass_of_methodNamed B.named
section LO
variable {p : Program} {l : Launch} {e : Env} {R : Room} {s : State} {m : MethodId} {args : Array Value} {below : List Frame} {meth : Method} {c : Code} {H : Heap} {locs : List Loc} {cells slots : Nat} {Q : State → Prop}
variable {cc : ByteArray} {pc : Nat} {ls : Array Slot} {rest st0 : List Value} {D : va_G} {T : List (ClassId × FieldType)} {A : Nat → Prop} {B0 : Nat → va_W} {U : List Nat}
variable {y : MethodName} {bytes : ByteArray} {maxL nL n index mc ms : Nat} {ret : Option FieldType} {ws Ts : List Cond} {rm : Room} {own : String} {As : List Value} {σ : Type} {w1 : σ → va_W} {B1 : σ → Nat → va_W}
theorem lq_o {P : Int32 → σ → Prop} (S : CallFix p m c cc nL s args Ts own) (hM : Met l y ws rm (va_Pc As (oPre D H.size (fmB B0 U) T)) (oQi D P w1 (va_A (fmB B0 U) H.size)) mc ms (va_A (fmB B0 U) H.size)) (cw : CallB R s args own index y bytes maxL ret ws rm mc ms n ∧ (Cond.static y).before args s = true)
    (hP : va_P D vwCl (fmB B0 U) H) (hD : va_D A (fmB B0 U)) (hK : va_K D vwCl T s) (hS : va_S A s.heap H locs) (hA : ∀ q, s.heap.size ≤ q → A q) (hN : kN s) (hE : kE A s s.heap) (hO : kO s) (h1 : ∀ u, w1 u = fmB (B1 u) U) (hn : As.length = n) (hsize : ls.size = nL) (hstack : st0 = As.reverse ++ rest) (hW : (rest.map fun v => v.category).sum ≤ 8) (hdg : decode cc pc = .ok (.invokestatic index, 3)) (hf : cells + mc ≤ R.cells ∧ slots + ms ≤ R.slots)
    (kk : ∀ (r : Int32) (u : σ) (H1 : Heap) (locs1 : List Loc), P r u → va_P D vwCl (fmB (B1 u) U) H1 → va_D A (fmB (B1 u) U) → va_S A s.heap H1 locs1 → W p l e R s m args below meth c H1 locs1 (cells + mc) (slots + ms) Q (F0 m (pc + 3) ls (.int r :: rest))) : W p l e R s m args below meth c H locs cells slots Q (F0 m pc ls st0) := by
  have hPp : va_P D vwCl (fmB B0 U ++ []) H := by rw [List.append_nil]; exact hP
  have hDp : va_D A (fmB B0 U ++ []) := by rw [List.append_nil]; exact hD
  have hf2 := lx_free hDp hS hA
  refine va_calli (va_runS S hM cw (lx_preXO (s := s) hN hPp hDp hK hS hA hE hO) rfl hn hsize hstack (lv_room hW) hdg hf) hS (fun q _ h => hf2 q h) hf2 (fun r u t H1 locs1 ht hvm hw hB hz hk hS1 => ?_)
  obtain ⟨g1, g2⟩ := lx_joined hPp hDp hS hA hk hB ht
  rw [List.append_nil, h1] at g1 g2
  exact kk r u H1 locs1 hw g1 g2 hS1
theorem lq_ol {P : Int64 → σ → Prop} (S : CallFix p m c cc nL s args Ts own) (hM : Met l y ws rm (va_Pc As (oPre D H.size (fmB B0 U) T)) (oQl D P w1 (va_A (fmB B0 U) H.size)) mc ms (va_A (fmB B0 U) H.size)) (cw : CallB R s args own index y bytes maxL ret ws rm mc ms n ∧ (Cond.static y).before args s = true)
    (hP : va_P D vwCl (fmB B0 U) H) (hD : va_D A (fmB B0 U)) (hK : va_K D vwCl T s) (hS : va_S A s.heap H locs) (hA : ∀ q, s.heap.size ≤ q → A q) (hN : kN s) (hE : kE A s s.heap) (hO : kO s) (h1 : ∀ u, w1 u = fmB (B1 u) U) (hn : As.length = n) (hsize : ls.size = nL) (hstack : st0 = As.reverse ++ rest) (hW : (rest.map fun v => v.category).sum ≤ 8) (hdg : decode cc pc = .ok (.invokestatic index, 3)) (hf : cells + mc ≤ R.cells ∧ slots + ms ≤ R.slots)
    (kk : ∀ (r : Int64) (u : σ) (H1 : Heap) (locs1 : List Loc), P r u → va_P D vwCl (fmB (B1 u) U) H1 → va_D A (fmB (B1 u) U) → va_S A s.heap H1 locs1 → W p l e R s m args below meth c H1 locs1 (cells + mc) (slots + ms) Q (F0 m (pc + 3) ls (.long r :: rest))) : W p l e R s m args below meth c H locs cells slots Q (F0 m pc ls st0) := by
  have hPp : va_P D vwCl (fmB B0 U ++ []) H := by rw [List.append_nil]; exact hP
  have hDp : va_D A (fmB B0 U ++ []) := by rw [List.append_nil]; exact hD
  have hf2 := lx_free hDp hS hA
  refine va_calll (va_runS S hM cw (lx_preXO (s := s) hN hPp hDp hK hS hA hE hO) rfl hn hsize hstack (lv_room hW) hdg hf) hS (fun q _ h => hf2 q h) hf2 (fun r u t H1 locs1 ht hvm hw hB hz hk hS1 => ?_)
  obtain ⟨g1, g2⟩ := lx_joined hPp hDp hS hA hk hB ht
  rw [List.append_nil, h1] at g1 g2
  exact kk r u H1 locs1 hw g1 g2 hS1
theorem lq_od {P : Int32 → σ → Prop} {d0 : Drawn} (hd0 : s.drawn.sameBut d0 lw_cs) (S : CallFix p m c cc nL (s.setDrawn d0) args Ts own) (hM : MetD lw_cs l y ws rm (va_Pc As (oPre D H.size (fmB B0 U) T)) (oQi D P w1 (va_A (fmB B0 U) H.size)) mc ms (va_A (fmB B0 U) H.size)) (cw : CallB R (s.setDrawn d0) args own index y bytes maxL ret ws rm mc ms n ∧ (Cond.static y).before args (s.setDrawn d0) = true)
    (hP : va_P D vwCl (fmB B0 U) H) (hD : va_D A (fmB B0 U)) (hK : va_K D vwCl T (s.setDrawn d0)) (hS : va_S A s.heap H locs) (hA : ∀ q, s.heap.size ≤ q → A q) (hN : kN (s.setDrawn d0)) (hE : kE A (s.setDrawn d0) s.heap) (hO : kO (s.setDrawn d0)) (h1 : ∀ u, w1 u = fmB (B1 u) U) (hn : As.length = n) (hsize : ls.size = nL) (hstack : st0 = As.reverse ++ rest) (hW : (rest.map fun v => v.category).sum ≤ 8) (hdg : decode cc pc = .ok (.invokestatic index, 3)) (hf : cells + mc ≤ R.cells ∧ slots + ms ≤ R.slots)
    (kk : ∀ (r : Int32) (u : σ) (H1 : Heap) (locs1 : List Loc), P r u → va_P D vwCl (fmB (B1 u) U) H1 → va_D A (fmB (B1 u) U) → va_S A s.heap H1 locs1 → ∀ d1 : Drawn, s.drawn.sameBut d1 lw_cs → W p l e R (s.setDrawn d1) m args below meth c H1 locs1 (cells + mc) (slots + ms) Q (F0 m (pc + 3) ls (.int r :: rest))) : W p l e R (s.setDrawn d0) m args below meth c H locs cells slots Q (F0 m pc ls st0) := by
  have hPp : va_P D vwCl (fmB B0 U ++ []) H := by rw [List.append_nil]; exact hP
  have hDp : va_D A (fmB B0 U ++ []) := by rw [List.append_nil]; exact hD
  have hf2 := lx_free hDp hS hA
  refine va_calliD hd0 (va_runS_D S hM cw (lx_preXO (s := (s.setDrawn d0)) hN hPp hDp hK hS hA hE hO) rfl hn hsize hstack (lv_room hW) hdg hf) hS (fun q _ h => hf2 q h) hf2 (fun r u t H1 locs1 ht hvm hw hB hz hk hS1 d1 hd1 => ?_)
  obtain ⟨g1, g2⟩ := lx_joined hPp hDp hS hA hk hB ht
  rw [List.append_nil, h1] at g1 g2
  exact kk r u H1 locs1 hw g1 g2 hS1 d1 hd1
theorem kr_oi {P : Int32 → σ → Prop} {u : σ} {v : Int32} (hexec : p.tables.exec = Jvm.exec) (hb : c.code = cc) (hr : meth.sig.returnType = some .int) (hlocks : meth.locks = false) (hP : va_P D vwCl (w1 u) H) (hD : va_D A (w1 u)) (hS : va_S A s.heap H locs) (hv : P v u) (hdg : decode cc pc = .ok (.ireturn, 1)) : W p l e R s m args below meth c H locs cells slots (MQ below (oQi D P w1 A) args s cells slots A) (F0 m pc ls [.int v]) :=
  W.iret hexec hb hr (fun t ht hW => ⟨⟨v, u, rfl, hv, And.intro (by rw [ht]; exact hP) hD⟩, hS.F ht⟩) hS.2.2 hdg
theorem kr_oz {P : Int32 → σ → Prop} {u : σ} {v : Int32} (hexec : p.tables.exec = Jvm.exec) (hb : c.code = cc) (hr : meth.sig.returnType = some .boolean) (hlocks : meth.locks = false) (hn : narrow .boolean (.int v) = .int v) (hP : va_P D vwCl (w1 u) H) (hD : va_D A (w1 u)) (hS : va_S A s.heap H locs) (hv : P v u) (hdg : decode cc pc = .ok (.ireturn, 1)) : W p l e R s m args below meth c H locs cells slots (MQ below (oQi D P w1 A) args s cells slots A) (F0 m pc ls [.int v]) :=
  W.zret hexec hb hr hn (fun t ht hW => ⟨⟨v, u, rfl, hv, And.intro (by rw [ht]; exact hP) hD⟩, hS.F ht⟩) hS.2.2 hdg
theorem kr_ol {P : Int64 → σ → Prop} {u : σ} {v : Int64} (hexec : p.tables.exec = Jvm.exec) (hb : c.code = cc) (hr : meth.sig.returnType = some .long) (hlocks : meth.locks = false) (hP : va_P D vwCl (w1 u) H) (hD : va_D A (w1 u)) (hS : va_S A s.heap H locs) (hv : P v u) (hdg : decode cc pc = .ok (.lreturn, 1)) : W p l e R s m args below meth c H locs cells slots (MQ below (oQl D P w1 A) args s cells slots A) (F0 m pc ls [.long v]) :=
  W.lret hexec hb hr (fun t ht hW => ⟨⟨v, u, rfl, hv, And.intro (by rw [ht]; exact hP) hD⟩, hS.F ht⟩) hS.2.2 hdg
end LO
