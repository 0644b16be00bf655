/-! the script's cell: a method that reads the script and writes nothing; by hand -/
def kPi9 (P : Int32 → Prop) : Array Value → State → Outcome → State → Prop := va_Qi (fun (r : Int32) (_ : Unit) => P r) (fun _ _ => True) (fun _ => False)
abbrev rmmL_cell : Room := { frames := 0, cells := 0, slots := 0, locals := 0 }
def cellP (r : Int32) : Prop := ∃ n : Nat, n < 2 ^ 31 ∧ r = nI n
def cellX (b L : Nat) (xs : Nat → Int32) (U : State) : Prop := va_X b L xs U U.heap ∧ b < U.heap.size
theorem cx_blind {b L : Nat} {xs : Nat → Int32} {av : List Value} : FrameBlind (va_Pc av (cellX b L xs)) := fun a U g mk q => by
  obtain ⟨q0, q1, q2⟩ := q
  exact ⟨q0, va_X.moved (u := U) (U := U.calling g mk a) (Vm.Alike.refl U.vm) q1, q2⟩
theorem cx_pre {s : State} {H : Heap} {locs : List Loc} {A : Nat → Prop} {b L : Nat} {xs : Nat → Int32} {As : List Value} (hX : va_X b L xs s s.heap) (hbl : b < s.heap.size) (hbA : ¬ A b) (hS : va_S A s.heap H locs) : PreS s H (va_Pc As (cellX b L xs)) As := by
  refine ⟨cx_blind, fun U hU hW => ⟨rfl, ?_, ?_⟩⟩
  · rw [hU]
    exact va_X.moved hW.alike (hX.kept (hS.2.1 b hbl hbA))
  · rw [hU]
    exact Nat.lt_of_lt_of_le hbl hS.1
theorem mL_cell (l : Launch) (b L i : Nat) (xs : Nat → Int32) (hL : L ≤ 260) (hi : i < 50) : Met l yL_cell wsL_cell rmmL_cell (va_Pc [.ref b, .int (nI i)] (cellX b L xs)) (kPi9 cellP) 0 0 (fun _ => False) := by
  refine Met.ofW (cc := cL_cell) (maxL := 2) (ret := (some .int)) (by decide) rfl ?_
  intro p e s m args below meth c s₁ B hml hv
  obtain ⟨rfl, hX, hbl⟩ := hv
  have hx := B.exec
  have hb : c.code = cL_cell := B.bytes
  have hr := B.returns
  have hts := atoms_spec (ws := wsL_cell) B.pre
  have hown : s.vm.findClass RL = some m.cls := findClass_of_methodNamed B.named
  have hlocks := B.notSynchronized
  have hS : va_S (fun _ => False) s.heap s.heap [] := va_S.rf
  have hbA : ¬ (fun _ : Nat => False) b := fun h => h
  have hl := lv_entry ([.ref b, .int (nI i)]) (n := 2) (Nat.le_of_ble_eq_true rfl)
  rw [lg_entry_eq]
  generalize (lg_sl ([.ref b, .int (nI i)]) ++ List.replicate (2 - (lg_sl ([.ref b, .int (nI i)])).length) Slot.unset).toArray = ls at hl ⊢
  have hl : lv_has ls 2 [(0, .ref b), (1, .int (nI i))] := hl
  have J : ∀ (v : Int32), W p l e rmmL_cell s m #[.ref b, .int (nI i)] below meth c s.heap [] 0 0 (MQ below (kPi9 cellP) #[.ref b, .int (nI i)] s 0 0 (fun _ => False)) (F0 m 23 ls [.int v]) := by
    intro v
    refine lv_ldc hx hb hown (hts (Cond.constant RL 9 (2147483647)) (List.mem_of_getElem? (i := 3) rfl)) dL_cell_23 ?_
    refine lv_iand hx hb dL_cell_25 ?_
    exact W.iret hx hb hr (fun t ht hW => ⟨⟨_, (), rfl, pk_andE _ 31 (by decide), trivial⟩, hS.F ht⟩) hS.2.2 dL_cell_26
  refine lv_iload_n hx hb dL_cell_0 rfl (lv_at hl 1 rfl) ?_
  refine lv_aload_n hx hb dL_cell_1 rfl (lv_at hl 0 rfl) ?_
  refine va_slen hx hb hX hbl hbA hS dL_cell_2 ?_
  refine lv_icmp_ge (tgt := 12) hx hb dL_cell_3 (by decide) (fun _ => ?_) (fun q => ?_)
  · refine lv_ldc hx hb hown (hts (Cond.constant RL 7 (659060556)) (List.mem_of_getElem? (i := 1) rfl)) dL_cell_12 ?_
    refine lv_iload_n hx hb dL_cell_14 rfl (lv_at hl 1 rfl) ?_
    refine lv_sipush (v := 311) hx hb dL_cell_15 (by decide) ?_
    refine lv_iadd hx hb dL_cell_18 ?_
    refine lv_imul hx hb dL_cell_19 ?_
    refine lv_ldc hx hb hown (hts (Cond.constant RL 8 (59009)) (List.mem_of_getElem? (i := 2) rfl)) dL_cell_20 ?_
    refine lv_iadd hx hb dL_cell_22 ?_
    exact J _
  · have hiL : i < L := by
      have q9 : ¬ nI L ≤ nI i := q
      rw [i_le, nI_toInt (n := L) (by omega), nI_toInt (n := i) (by omega)] at q9
      omega
    refine lv_aload_n hx hb dL_cell_6 rfl (lv_at hl 0 rfl) ?_
    refine lv_iload_n hx hb dL_cell_7 rfl (lv_at hl 1 rfl) ?_
    refine va_sld hx hb hX hbl hbA hS (vp_in_nI hiL (by omega)) dL_cell_8 ?_
    refine lv_goto (tgt := 23) hx hb dL_cell_9 (by decide) ?_
    exact J _
section KX9
variable {p : Program} {l : Launch} {e : Env} {R : Room} {s : State} {m : MethodId} {args : Array Value} {below : List Frame} {meth : Method} {c : Code} {H : Heap} {locs : List Loc} {cells slots : Nat} {Q : State → Prop}
variable {cc : ByteArray} {pc : Nat} {ls : Array Slot} {rest st0 : List Value} {D : va_G} {A : Nat → Prop} {H0 : Heap} {W0 : va_W}
variable {y : MethodName} {bytes : ByteArray} {maxL nL n index : Nat} {ret : Option FieldType} {ws Ts : List Cond} {rm : Room} {own : String} {As : List Value}
/-- a static call of a method that reads the script alone -/
theorem ks_iX {B9 : State → Prop} {P9 : Int32 → Prop} (S : CallFix p m c cc nL s args Ts own) (hM : Met l y ws rm (va_Pc As B9) (kPi9 P9) 0 0 (fun _ => False)) (hB9 : PreS s H (va_Pc As B9) As) (cw : CallB R s args own index y bytes maxL ret ws rm 0 0 n ∧ (Cond.static y).before args s = true)
    (hP : va_P D vwCl W0 H) (hS : va_S A H0 H locs) (hn : As.length = n) (hsize : ls.size = nL) (hstack : st0 = As.reverse ++ rest) (hW : (rest.map fun v => v.category).sum ≤ 8) (hdg : decode cc pc = .ok (.invokestatic index, 3)) (hf : cells ≤ R.cells ∧ slots ≤ R.slots)
    (kk : ∀ (r : Int32) (H1 : Heap) (locs1 : List Loc), P9 r → va_P D vwCl W0 H1 → va_S A H0 H1 locs1 → W p l e R s m args below meth c H1 locs1 cells slots Q (F0 m (pc + 3) ls (.int r :: rest))) : W p l e R s m args below meth c H locs cells slots Q (F0 m pc ls st0) := by
  refine va_calli (va_runS S hM cw hB9 rfl hn hsize hstack (lv_room hW) hdg hf) hS (fun q _ h => h.elim) (fun q h => h.elim) (fun r u t H1 locs1 ht hvm hw hB hz hk hS1 => ?_)
  exact kk r H1 locs1 hw (hP.kept (fun k q hq => hk q.1 (hP k q hq).lt (fun h => h))) hS1
end KX9
