/-! OUR OWN LAYER for the law, the second part: its state; laid by program (wip/whole/gen/law.py) -/
abbrev LB (cI cC cJ cZ cQ : ClassId) (x0 a0 a1 a2 a3 a4 a5 a6 v0 v1 t0 t1 h0 u0 u1 m0 m1 m2 m3 m4 m5 m6 o : Nat) (pa : Nat → Nat) (rg : Nat → Option Nat) (z y : StV) (nx cnt tl sp tm : Nat) (S T : Nat → StV) (tx so bs to : Nat → Int32) (wd ov : Nat → Int64) (hv hk hc th lf kp : Int32) (sm ln : Nat) (mx : Nat → Int32) : Nat → va_W := fun i => match i with
  | 0 => [(o, .inl (cJ, 1, .inr (.inl ov)))]
  | 1 => [(x0, .inr (7, [.ref a0, .ref v0, .ref t0, .ref h0, .ref u0]))]
  | 2 => [(a0, .inr (2, [.int z.1, .int z.2.1, .int z.2.2.1, .int z.2.2.2.1, .int z.2.2.2.2.1, .ref a1, .ref a3])), (a1, .inr (6, [.ref a2, .int (nI z.2.2.2.2.2.1)])), (a2, .inl (cI, 12, .inl z.2.2.2.2.2.2.2.1)), (a3, .inr (0, [.ref a4, .ref a5, .ref a6, .int (nI z.2.2.2.2.2.2.1)])), (a4, .inl (cI, 8, .inl z.2.2.2.2.2.2.2.2.1)), (a5, .inl (cI, 8, .inl z.2.2.2.2.2.2.2.2.2.1)), (a6, .inl (cI, 8, .inl z.2.2.2.2.2.2.2.2.2.2))]
  | 3 => [(v0, .inr (1, [.ref v1, .int (nI nx), .int (nI cnt)]))]
  | 4 => [(v1, .inl (cQ, 6, .inr (.inr (.inr (.inr rg)))))]
  | 5 => [((pa 0), .inr (2, [.int ((S 0).1), .int ((S 0).2.1), .int ((S 0).2.2.1), .int ((S 0).2.2.2.1), .int ((S 0).2.2.2.2.1), .ref (pa 1), .ref (pa 3)])), ((pa 1), .inr (6, [.ref (pa 2), .int (nI ((S 0).2.2.2.2.2.1))])), ((pa 2), .inl (cI, 12, .inl ((S 0).2.2.2.2.2.2.2.1))), ((pa 3), .inr (0, [.ref (pa 4), .ref (pa 5), .ref (pa 6), .int (nI ((S 0).2.2.2.2.2.2.1))])), ((pa 4), .inl (cI, 8, .inl ((S 0).2.2.2.2.2.2.2.2.1))), ((pa 5), .inl (cI, 8, .inl ((S 0).2.2.2.2.2.2.2.2.2.1))), ((pa 6), .inl (cI, 8, .inl ((S 0).2.2.2.2.2.2.2.2.2.2))), ((pa 7), .inr (2, [.int ((S 1).1), .int ((S 1).2.1), .int ((S 1).2.2.1), .int ((S 1).2.2.2.1), .int ((S 1).2.2.2.2.1), .ref (pa 8), .ref (pa 10)])), ((pa 8), .inr (6, [.ref (pa 9), .int (nI ((S 1).2.2.2.2.2.1))])), ((pa 9), .inl (cI, 12, .inl ((S 1).2.2.2.2.2.2.2.1))), ((pa 10), .inr (0, [.ref (pa 11), .ref (pa 12), .ref (pa 13), .int (nI ((S 1).2.2.2.2.2.2.1))])), ((pa 11), .inl (cI, 8, .inl ((S 1).2.2.2.2.2.2.2.2.1))), ((pa 12), .inl (cI, 8, .inl ((S 1).2.2.2.2.2.2.2.2.2.1))), ((pa 13), .inl (cI, 8, .inl ((S 1).2.2.2.2.2.2.2.2.2.2))), ((pa 14), .inr (2, [.int ((S 2).1), .int ((S 2).2.1), .int ((S 2).2.2.1), .int ((S 2).2.2.2.1), .int ((S 2).2.2.2.2.1), .ref (pa 15), .ref (pa 17)])), ((pa 15), .inr (6, [.ref (pa 16), .int (nI ((S 2).2.2.2.2.2.1))])), ((pa 16), .inl (cI, 12, .inl ((S 2).2.2.2.2.2.2.2.1))), ((pa 17), .inr (0, [.ref (pa 18), .ref (pa 19), .ref (pa 20), .int (nI ((S 2).2.2.2.2.2.2.1))])), ((pa 18), .inl (cI, 8, .inl ((S 2).2.2.2.2.2.2.2.2.1))), ((pa 19), .inl (cI, 8, .inl ((S 2).2.2.2.2.2.2.2.2.2.1))), ((pa 20), .inl (cI, 8, .inl ((S 2).2.2.2.2.2.2.2.2.2.2))), ((pa 21), .inr (2, [.int ((S 3).1), .int ((S 3).2.1), .int ((S 3).2.2.1), .int ((S 3).2.2.2.1), .int ((S 3).2.2.2.2.1), .ref (pa 22), .ref (pa 24)])), ((pa 22), .inr (6, [.ref (pa 23), .int (nI ((S 3).2.2.2.2.2.1))])), ((pa 23), .inl (cI, 12, .inl ((S 3).2.2.2.2.2.2.2.1))), ((pa 24), .inr (0, [.ref (pa 25), .ref (pa 26), .ref (pa 27), .int (nI ((S 3).2.2.2.2.2.2.1))])), ((pa 25), .inl (cI, 8, .inl ((S 3).2.2.2.2.2.2.2.2.1))), ((pa 26), .inl (cI, 8, .inl ((S 3).2.2.2.2.2.2.2.2.2.1))), ((pa 27), .inl (cI, 8, .inl ((S 3).2.2.2.2.2.2.2.2.2.2))), ((pa 28), .inr (2, [.int ((S 4).1), .int ((S 4).2.1), .int ((S 4).2.2.1), .int ((S 4).2.2.2.1), .int ((S 4).2.2.2.2.1), .ref (pa 29), .ref (pa 31)])), ((pa 29), .inr (6, [.ref (pa 30), .int (nI ((S 4).2.2.2.2.2.1))])), ((pa 30), .inl (cI, 12, .inl ((S 4).2.2.2.2.2.2.2.1))), ((pa 31), .inr (0, [.ref (pa 32), .ref (pa 33), .ref (pa 34), .int (nI ((S 4).2.2.2.2.2.2.1))])), ((pa 32), .inl (cI, 8, .inl ((S 4).2.2.2.2.2.2.2.2.1))), ((pa 33), .inl (cI, 8, .inl ((S 4).2.2.2.2.2.2.2.2.2.1))), ((pa 34), .inl (cI, 8, .inl ((S 4).2.2.2.2.2.2.2.2.2.2))), ((pa 35), .inr (2, [.int ((S 5).1), .int ((S 5).2.1), .int ((S 5).2.2.1), .int ((S 5).2.2.2.1), .int ((S 5).2.2.2.2.1), .ref (pa 36), .ref (pa 38)])), ((pa 36), .inr (6, [.ref (pa 37), .int (nI ((S 5).2.2.2.2.2.1))])), ((pa 37), .inl (cI, 12, .inl ((S 5).2.2.2.2.2.2.2.1))), ((pa 38), .inr (0, [.ref (pa 39), .ref (pa 40), .ref (pa 41), .int (nI ((S 5).2.2.2.2.2.2.1))])), ((pa 39), .inl (cI, 8, .inl ((S 5).2.2.2.2.2.2.2.2.1))), ((pa 40), .inl (cI, 8, .inl ((S 5).2.2.2.2.2.2.2.2.2.1))), ((pa 41), .inl (cI, 8, .inl ((S 5).2.2.2.2.2.2.2.2.2.2)))]
  | 6 => [(t0, .inr (5, [.ref t1, .int (nI tl)])), (t1, .inl (cC, 60, .inl tx))]
  | 7 => [(h0, .inr (4, [.int hv, .int hk, .int hc]))]
  | 8 => [(u0, .inr (3, [.ref u1])), (u1, .inl (cJ, 64, .inr (.inl wd)))]
  | 9 => [(m0, .inr (8, [.ref m1, .ref m2, .int (nI sm), .ref m3, .int (nI ln), .int th, .ref m4, .int lf, .int kp, .ref m5, .int (nI sp), .ref m6, .int (nI tm)]))]
  | 10 => [(m1, .inl (cI, 43, .inl (zArr y)))]
  | 11 => [(m2, .inl (cI, 258, .inl (sArr T)))]
  | 12 => [(m3, .inl (cI, 60, .inl mx))]
  | 13 => [(m4, .inl (cI, 12, .inl so))]
  | 14 => [(m5, .inl (cZ, 4096, .inl bs))]
  | 15 => [(m6, .inl (cI, 12, .inl to))]
  | _ => []
/-- the law's world: class and model agree -/
def lx_W (D : va_G) (cI cC cJ cZ cQ : ClassId) (x0 a0 a1 a2 a3 a4 a5 a6 v0 v1 t0 t1 h0 u0 u1 m0 m1 m2 m3 m4 m5 m6 o : Nat) (pa : Nat → Nat) (rg : Nat → Option Nat) (H0 H : Heap) (locs : List Loc) : Prop := ∃ (z y : StV) (nx cnt tl sp tm : Nat) (S T : Nat → StV) (tx so bs to : Nat → Int32) (wd ov : Nat → Int64) (hv hk hc th lf kp : Int32), sR z y ∧ rgR nx cnt S T ∧ tl ≤ 60 ∧ rgOK rg pa ∧ va_P D vwCl (fmB (LB cI cC cJ cZ cQ x0 a0 a1 a2 a3 a4 a5 a6 v0 v1 t0 t1 h0 u0 u1 m0 m1 m2 m3 m4 m5 m6 o pa rg z y nx cnt tl sp tm S T tx so bs to wd ov hv hk hc th lf kp cnt tl tx) [0, 1, 2, 3, 4, 5, 6, 7, 8, 9, 10, 11, 12, 13, 14, 15]) H ∧ va_D (fun q : Nat => H0.size ≤ q) (fmB (LB cI cC cJ cZ cQ x0 a0 a1 a2 a3 a4 a5 a6 v0 v1 t0 t1 h0 u0 u1 m0 m1 m2 m3 m4 m5 m6 o pa rg z y nx cnt tl sp tm S T tx so bs to wd ov hv hk hc th lf kp cnt tl tx) [0, 1, 2, 3, 4, 5, 6, 7, 8, 9, 10, 11, 12, 13, 14, 15]) ∧ va_S (fun q : Nat => H0.size ≤ q) H0 H locs
/-- the machine at the law's own frame, the tables, the script -/
def lx_M (p : Program) (l : Launch) (s : State) (m : MethodId) (meth : Method) (c : Code) (b L : Nat) (xs : Nat → Int32) (D : va_G) (cI cC cJ cZ cQ : ClassId) : Prop :=
  p.tables.exec = Jvm.exec ∧ c.code = cL_law ∧ c.maxLocals = 9 ∧ s.vm.findClass RL = some m.cls ∧ (∀ w ∈ wsL_law, w.before #[Value.ref b] s = true) ∧ va_X b L xs s s.heap ∧ b < s.heap.size ∧ L ≤ 1536 ∧ l.stackTraces = false ∧ va_K D vwCl (kT cI cC cJ cZ cQ) s ∧ kN s ∧ kE (fun q : Nat => s.heap.size ≤ q) s s.heap ∧ kO s
theorem lx_drawn {p : Program} {l : Launch} {s : State} {m : MethodId} {meth : Method} {c : Code} {b L : Nat} {xs : Nat → Int32} {D : va_G} {cI cC cJ cZ cQ : ClassId} (h : lx_M p l s m meth c b L xs D cI cC cJ cZ cQ) (d : Drawn) : lx_M p l (s.setDrawn d) m meth c b L xs D cI cC cJ cZ cQ := by
  obtain ⟨hx, hb, hml, hown, hts, hX, hbl, hL, hst, hK, hN, hE, hO⟩ := h
  exact ⟨hx, hb, hml, hown, dr_words hts d, va_X.moved (Vm.Alike.refl _) hX, hbl, hL, hst, va_K.moved (Vm.Alike.refl _) hK, hN.same rfl, ⟨vx_Zq.moved (Vm.Alike.refl _) hE.1, vx_Zq.moved (Vm.Alike.refl _) hE.2.1, hE.2.2.1.same rfl, hE.2.2.2.1.same rfl, hE.2.2.2.2.same rfl⟩, kO.moved (Vm.Alike.refl _) hO⟩
/-- what the law's loop goes on with, behind a call -/
def lx_K (p : Program) (l : Launch) (e : Env) (s : State) (m : MethodId) (b : Nat) (below : List Frame) (meth : Method) (c : Code) (D : va_G) (cI cC cJ cZ cQ : ClassId) (x0 a0 a1 a2 a3 a4 a5 a6 v0 v1 t0 t1 h0 u0 u1 m0 m1 m2 m3 m4 m5 m6 o : Nat) (pa : Nat → Nat) (rg : Nat → Option Nat) (i cells slots : Nat) (Q : State → Prop) : Prop := ∀ (H : Heap) (locs : List Loc) (cells1 slots1 : Nat) (ls : Array Slot), cells1 ≤ cells + 1 → slots1 ≤ slots + 6 → lx_W D cI cC cJ cZ cQ x0 a0 a1 a2 a3 a4 a5 a6 v0 v1 t0 t1 h0 u0 u1 m0 m1 m2 m3 m4 m5 m6 o pa rg s.heap H locs → lv_has ls 9 [(4, .int (nI i)), (0, .ref b), (1, .ref x0), (2, .ref m0), (3, .ref o)] → W p l e room_1 s m #[Value.ref b] below meth c H locs cells1 slots1 Q (F0 m 1447 ls [])
/-- a cell of the script, its place counted from i -/
theorem lx_arg {p : Program} {l : Launch} {e : Env} {R : Room} {s : State} {m : MethodId} {args : Array Value} {below : List Frame} {meth : Method} {c : Code} {H : Heap} {locs : List Loc} {cells slots : Nat} {Q : State → Prop} {cc : ByteArray} {pc : Nat} {ls : Array Slot} {rest : List Value} {A : Nat → Prop} {H0 : Heap} {b L i k : Nat} {xs : Nat → Int32} {kc : Int} (hx : p.tables.exec = Jvm.exec) (hb : c.code = cc) (hX : va_X b L xs s H0) (hbl : b < H0.size) (hbA : ¬ A b) (hS : va_S A H0 H locs) (hL : L ≤ 1536) (hik : i + k < L) (hkc : Int32.ofInt kc = nI k)
    (h0 : ls[0]? = some (.val (.ref b))) (h4 : ls[4]? = some (.val (.int (nI i)))) (d0 : decode cc pc = .ok (.aload_n 0, 1)) (d1 : decode cc (pc + 1) = .ok (.iload 4, 2)) (d3 : decode cc (pc + 3) = .ok (.iconst kc, 1)) (d4 : decode cc (pc + 4) = .ok (.iadd, 1)) (d5 : decode cc (pc + 5) = .ok (.iaload, 1))
    (kk : W p l e R s m args below meth c H locs cells slots Q (F0 m (pc + 6) ls (.int (xs (i + k)) :: rest))) : W p l e R s m args below meth c H locs cells slots Q (F0 m pc ls rest) := by
  refine lv_aload_n hx hb d0 rfl h0 ?_
  refine lv_iload hx hb d1 h4 ?_
  refine lv_iconst (v := nI k) hx hb d3 hkc ?_
  refine lv_iadd hx hb d4 ?_
  refine k_topi (nI_add i k) ?_
  refine va_sld hx hb hX hbl hbA hS (vp_in_nI hik (by omega)) d5 ?_
  rw [nI_clamp (by omega)]
  exact kk
theorem lx_nan {b : UInt64} (h : isNaN64 b = true) : FP.dcmp b b = none := by
  rw [isNaN64_iff] at h
  have e : (0x7fffffffffffffff : Nat) = 2 ^ 63 - 1 := by decide
  rw [e, Nat.and_two_pow_sub_one_eq_mod] at h
  have hE : FP.Core.fieldE FP.Core.b64 b.toNat = FP.Core.b64.exps - 1 := by
    show b.toNat / 4503599627370496 % 2048 = 2047
    omega
  have hT : ¬ FP.Core.fieldT FP.Core.b64 b.toNat = 0 := by
    show ¬ b.toNat % 4503599627370496 = 0
    omega
  have hd : FP.Core.decode FP.Core.b64 b.toNat = .nan := by
    unfold FP.Core.decode
    rw [if_pos hE, if_neg hT]
  show FP.Core.order (FP.Core.decode FP.Core.b64 b.toNat) (FP.Core.decode FP.Core.b64 b.toNat) = none
  rw [hd]
  rfl
/-- two means that are alike one mean: alike, and where they differ in bits each differs from itself -/
theorem lx_mean {x y M : UInt64} (hx : alike64 x M = true) (hy : alike64 y M = true) (h : ¬ Op.cmpValue (FP.dcmp x y) .l = 0) : ¬ Op.cmpValue (FP.dcmp x x) .l = 0 ∧ ¬ Op.cmpValue (FP.dcmp y y) .l = 0 := by
  have nn : ∀ u : UInt64, isNaN64 u = true → ¬ Op.cmpValue (FP.dcmp u u) .l = 0 := fun u hu => by
    rw [lx_nan hu]
    decide
  simp only [alike64, Bool.or_eq_true, Bool.and_eq_true, decide_eq_true_eq] at hx hy
  rcases hx with hx | ⟨hx, hM⟩
  · rcases hy with hy | ⟨hy, hM⟩
    · rw [hx, hy] at h ⊢
      exact ⟨h, h⟩
    · rw [← hx] at hM
      exact ⟨nn x hM, nn y hy⟩
  · rcases hy with hy | ⟨hy, -⟩
    · rw [← hy] at hM
      exact ⟨nn x hx, nn y hM⟩
    · exact ⟨nn x hx, nn y hy⟩
set_option maxHeartbeats 4000000 in
set_option maxRecDepth 100000 in
/-- behind both calls: what was thrown, and the answers -/
theorem lx_tail {p : Program} {l : Launch} {e : Env} {s : State} {m : MethodId} {below : List Frame} {meth : Method} {c : Code} {H : Heap} {locs : List Loc} {cells slots : Nat} {Q : State → Prop} {b L : Nat} {xs : Nat → Int32} {D : va_G} {cI cC cJ cZ cQ : ClassId} {x0 a0 a1 a2 a3 a4 a5 a6 v0 v1 t0 t1 h0 u0 u1 m0 m1 m2 m3 m4 m5 m6 o : Nat} {pa : Nat → Nat} {rg : Nat → Option Nat} {i : Nat} {z y : StV} {nx cnt tl sp tm : Nat} {S T : Nat → StV} {tx so bs to : Nat → Int32} {wd ov : Nat → Int64} {hv hk hc th lf kp : Int32} {pc : Nat} {off : Int} {kc bv : Int32} {ls : Array Slot} {c0 s0 : Nat} (hM : lx_M p l s m meth c b L xs D cI cC cJ cZ cQ) (hth : th = kc) (hvv : kc = 0 → ov 0 = bv.toInt64) (hsR : sR z y) (hrg : rgR nx cnt S T) (htl : tl ≤ 60) (hrgo : rgOK rg pa) (hP : va_P D vwCl (fmB (LB cI cC cJ cZ cQ x0 a0 a1 a2 a3 a4 a5 a6 v0 v1 t0 t1 h0 u0 u1 m0 m1 m2 m3 m4 m5 m6 o pa rg z y nx cnt tl sp tm S T tx so bs to wd ov hv hk hc th lf kp cnt tl tx) [0, 1, 2, 3, 4, 5, 6, 7, 8, 9, 10, 11, 12, 13, 14, 15]) H) (hD : va_D (fun q : Nat => s.heap.size ≤ q) (fmB (LB cI cC cJ cZ cQ x0 a0 a1 a2 a3 a4 a5 a6 v0 v1 t0 t1 h0 u0 u1 m0 m1 m2 m3 m4 m5 m6 o pa rg z y nx cnt tl sp tm S T tx so bs to wd ov hv hk hc th lf kp cnt tl tx) [0, 1, 2, 3, 4, 5, 6, 7, 8, 9, 10, 11, 12, 13, 14, 15])) (hS : va_S (fun q : Nat => s.heap.size ≤ q) s.heap H locs)
    (d0 : decode cL_law pc = .ok (.aload_n 2, 1)) (d1 : decode cL_law (pc + 1) = .ok (.invokevirtual 83, 3)) (d4 : decode cL_law (pc + 4) = .ok (.iload 5, 2)) (d6 : decode cL_law (pc + 6) = .ok (.if_icmp .eq 5, 3)) (d11 : decode cL_law (pc + 11) = .ok (.iload 5, 2)) (d13 : decode cL_law (pc + 13) = .ok (.ifCond .ne 15, 3)) (d16 : decode cL_law (pc + 16) = .ok (.aload_n 3, 1)) (d17 : decode cL_law (pc + 17) = .ok (.iconst 0, 1)) (d18 : decode cL_law (pc + 18) = .ok (.laload, 1)) (d19 : decode cL_law (pc + 19) = .ok (.iload 6, 2)) (d21 : decode cL_law (pc + 21) = .ok (.i2l, 1)) (d22 : decode cL_law (pc + 22) = .ok (.lcmp, 1)) (d23 : decode cL_law (pc + 23) = .ok (.ifCond .eq 5, 3)) (d28 : decode cL_law (pc + 28) = .ok (.goto off, 3))
    (ht : ((pc + 28 : Nat) : Int) + off = ((1447 : Nat) : Int)) (hl : lv_has ls 9 [(6, .int bv), (5, .int kc), (4, .int (nI i)), (0, .ref b), (1, .ref x0), (2, .ref m0), (3, .ref o)]) (hf : cells ≤ room_1.cells ∧ slots ≤ room_1.slots) (hc0 : cells ≤ c0 + 1) (hs0 : slots ≤ s0 + 6) (K : lx_K p l e s m b below meth c D cI cC cJ cZ cQ x0 a0 a1 a2 a3 a4 a5 a6 v0 v1 t0 t1 h0 u0 u1 m0 m1 m2 m3 m4 m5 m6 o pa rg i c0 s0 Q) : W p l e room_1 s m #[Value.ref b] below meth c H locs cells slots Q (F0 m pc ls []) := by
  obtain ⟨hx, hb, hml, hown, hts, hX, hbl, hL, hst, hK, hN, hE, hO⟩ := id hM
  have hA : ∀ q : Nat, s.heap.size ≤ q → (fun q : Nat => s.heap.size ≤ q) q := fun _ h => h
  have hbA : ¬ (fun q : Nat => s.heap.size ≤ q) b := Nat.not_le.mpr hbl
  refine lv_aload_n hx hb d0 rfl (lv_at hl 5 rfl) ?_
  refine lq_v (B0 := (LB cI cC cJ cZ cQ x0 a0 a1 a2 a3 a4 a5 a6 v0 v1 t0 t1 h0 u0 u1 m0 m1 m2 m3 m4 m5 m6 o pa rg z y nx cnt tl sp tm S T tx so bs to wd ov hv hk hc th lf kp cnt tl tx)) (B1 := (LB cI cC cJ cZ cQ x0 a0 a1 a2 a3 a4 a5 a6 v0 v1 t0 t1 h0 u0 u1 m0 m1 m2 m3 m4 m5 m6 o pa rg z y nx cnt tl sp tm S T tx so bs to wd ov hv hk hc th lf kp cnt tl tx)) (U := [0, 1, 2, 3, 4, 5, 6, 7, 8, 9, 10, 11, 12, 13, 14, 15]) (isC := [9]) (isR := [0, 1, 2, 3, 4, 5, 6, 7, 8, 10, 11, 12, 13, 14, 15]) (As := []) (rest := []) ⟨hx, hb, hml, hown, hts⟩ (kX8_thrown l D H.size cI cC cJ cZ cQ m0 m1 m2 m3 m4 m5 m6 cnt tl sp tm th lf kp) (cwV 0 hts gL_law_X8_thrown rfl rfl rfl (by decide +kernel) ⟨Nat.le_of_ble_eq_true rfl, Nat.le_of_ble_eq_true rfl⟩) hP hD hK hS hA hN (by decide) rfl rfl rfl 0 8 rfl rfl rfl rfl hl.1 rfl (Nat.le_of_ble_eq_true rfl) d1 hf (fun H locs hP hD hS => ?_)
  refine lv_iload hx hb d4 (lv_at hl 1 rfl) ?_
  refine lv_icmp_eq (tgt := pc + 11) hx hb d6 (by omega) (fun _ => ?_) (fun q => absurd hth q)
  refine lv_iload hx hb d11 (lv_at hl 1 rfl) ?_
  refine lv_if_ne (tgt := pc + 28) hx hb d13 (by omega) (fun _ => ?_) (fun q0 => ?_)
  · refine lv_goto (tgt := 1447) hx hb d28 ht ?_
    exact K _ _ _ _ _ hc0 hs0 ⟨z, y, nx, cnt, tl, sp, tm, S, T, tx, so, bs, to, wd, ov, hv, hk, hc, th, lf, kp, hsR, hrg, htl, hrgo, hP, hD, hS⟩ (lv_sub hl [2, 3, 4, 5, 6] rfl)
  · refine lv_aload_n hx hb d16 rfl (lv_at hl 6 rfl) ?_
    refine lv_iconst (v := nI 0) hx hb d17 (by decide) ?_
    refine k_lald hx hb hK hP 0 2 rfl rfl (by decide) (by decide) d18 ?_
    refine lv_iload hx hb d19 (lv_at hl 0 rfl) ?_
    refine lv_i2l (v := bv.toInt64) hx hb d21 rfl ?_
    refine W.lcmp hx hb d22 ?_
    refine lv_if_eq (tgt := pc + 28) hx hb d23 (by omega) (fun _ => ?_) (fun q => absurd (k_cmp0.mpr (hvv q0)) q)
    refine lv_goto (tgt := 1447) hx hb d28 ht ?_
    exact K _ _ _ _ _ hc0 hs0 ⟨z, y, nx, cnt, tl, sp, tm, S, T, tx, so, bs, to, wd, ov, hv, hk, hc, th, lf, kp, hsR, hrg, htl, hrgo, hP, hD, hS⟩ (lv_sub hl [2, 3, 4, 5, 6] rfl)
set_option maxHeartbeats 4000000 in
set_option maxRecDepth 100000 in
/-- .. where the answer is a truth value -/
theorem lx_tailZ {p : Program} {l : Launch} {e : Env} {s : State} {m : MethodId} {below : List Frame} {meth : Method} {c : Code} {H : Heap} {locs : List Loc} {cells slots : Nat} {Q : State → Prop} {b L : Nat} {xs : Nat → Int32} {D : va_G} {cI cC cJ cZ cQ : ClassId} {x0 a0 a1 a2 a3 a4 a5 a6 v0 v1 t0 t1 h0 u0 u1 m0 m1 m2 m3 m4 m5 m6 o : Nat} {pa : Nat → Nat} {rg : Nat → Option Nat} {i : Nat} {z y : StV} {nx cnt tl sp tm : Nat} {S T : Nat → StV} {tx so bs to : Nat → Int32} {wd ov : Nat → Int64} {hv hk hc th lf kp : Int32} {pc : Nat} {off : Int} {kc bv : Int32} {ls : Array Slot} {c0 s0 : Nat} (hM : lx_M p l s m meth c b L xs D cI cC cJ cZ cQ) (hth : th = kc) (hvv : kc = 0 → ov 0 = if bv = 0 then 0 else 1) (hsR : sR z y) (hrg : rgR nx cnt S T) (htl : tl ≤ 60) (hrgo : rgOK rg pa) (hP : va_P D vwCl (fmB (LB cI cC cJ cZ cQ x0 a0 a1 a2 a3 a4 a5 a6 v0 v1 t0 t1 h0 u0 u1 m0 m1 m2 m3 m4 m5 m6 o pa rg z y nx cnt tl sp tm S T tx so bs to wd ov hv hk hc th lf kp cnt tl tx) [0, 1, 2, 3, 4, 5, 6, 7, 8, 9, 10, 11, 12, 13, 14, 15]) H) (hD : va_D (fun q : Nat => s.heap.size ≤ q) (fmB (LB cI cC cJ cZ cQ x0 a0 a1 a2 a3 a4 a5 a6 v0 v1 t0 t1 h0 u0 u1 m0 m1 m2 m3 m4 m5 m6 o pa rg z y nx cnt tl sp tm S T tx so bs to wd ov hv hk hc th lf kp cnt tl tx) [0, 1, 2, 3, 4, 5, 6, 7, 8, 9, 10, 11, 12, 13, 14, 15])) (hS : va_S (fun q : Nat => s.heap.size ≤ q) s.heap H locs)
    (d0 : decode cL_law pc = .ok (.aload_n 2, 1)) (d1 : decode cL_law (pc + 1) = .ok (.invokevirtual 83, 3)) (d4 : decode cL_law (pc + 4) = .ok (.iload 5, 2)) (d6 : decode cL_law (pc + 6) = .ok (.if_icmp .eq 5, 3)) (d11 : decode cL_law (pc + 11) = .ok (.iload 5, 2)) (d13 : decode cL_law (pc + 13) = .ok (.ifCond .ne 22, 3)) (d16 : decode cL_law (pc + 16) = .ok (.aload_n 3, 1)) (d17 : decode cL_law (pc + 17) = .ok (.iconst 0, 1)) (d18 : decode cL_law (pc + 18) = .ok (.laload, 1)) (d19 : decode cL_law (pc + 19) = .ok (.iload 6, 2)) (d21 : decode cL_law (pc + 21) = .ok (.ifCond .eq 7, 3)) (d24 : decode cL_law (pc + 24) = .ok (.lconst 1, 1)) (d25 : decode cL_law (pc + 25) = .ok (.goto 4, 3)) (d28 : decode cL_law (pc + 28) = .ok (.lconst 0, 1)) (d29 : decode cL_law (pc + 29) = .ok (.lcmp, 1)) (d30 : decode cL_law (pc + 30) = .ok (.ifCond .eq 5, 3)) (d35 : decode cL_law (pc + 35) = .ok (.goto off, 3))
    (ht : ((pc + 35 : Nat) : Int) + off = ((1447 : Nat) : Int)) (hl : lv_has ls 9 [(6, .int bv), (5, .int kc), (4, .int (nI i)), (0, .ref b), (1, .ref x0), (2, .ref m0), (3, .ref o)]) (hf : cells ≤ room_1.cells ∧ slots ≤ room_1.slots) (hc0 : cells ≤ c0 + 1) (hs0 : slots ≤ s0 + 6) (K : lx_K p l e s m b below meth c D cI cC cJ cZ cQ x0 a0 a1 a2 a3 a4 a5 a6 v0 v1 t0 t1 h0 u0 u1 m0 m1 m2 m3 m4 m5 m6 o pa rg i c0 s0 Q) : W p l e room_1 s m #[Value.ref b] below meth c H locs cells slots Q (F0 m pc ls []) := by
  obtain ⟨hx, hb, hml, hown, hts, hX, hbl, hL, hst, hK, hN, hE, hO⟩ := id hM
  have hA : ∀ q : Nat, s.heap.size ≤ q → (fun q : Nat => s.heap.size ≤ q) q := fun _ h => h
  have hbA : ¬ (fun q : Nat => s.heap.size ≤ q) b := Nat.not_le.mpr hbl
  refine lv_aload_n hx hb d0 rfl (lv_at hl 5 rfl) ?_
  refine lq_v (B0 := (LB cI cC cJ cZ cQ x0 a0 a1 a2 a3 a4 a5 a6 v0 v1 t0 t1 h0 u0 u1 m0 m1 m2 m3 m4 m5 m6 o pa rg z y nx cnt tl sp tm S T tx so bs to wd ov hv hk hc th lf kp cnt tl tx)) (B1 := (LB cI cC cJ cZ cQ x0 a0 a1 a2 a3 a4 a5 a6 v0 v1 t0 t1 h0 u0 u1 m0 m1 m2 m3 m4 m5 m6 o pa rg z y nx cnt tl sp tm S T tx so bs to wd ov hv hk hc th lf kp cnt tl tx)) (U := [0, 1, 2, 3, 4, 5, 6, 7, 8, 9, 10, 11, 12, 13, 14, 15]) (isC := [9]) (isR := [0, 1, 2, 3, 4, 5, 6, 7, 8, 10, 11, 12, 13, 14, 15]) (As := []) (rest := []) ⟨hx, hb, hml, hown, hts⟩ (kX8_thrown l D H.size cI cC cJ cZ cQ m0 m1 m2 m3 m4 m5 m6 cnt tl sp tm th lf kp) (cwV 0 hts gL_law_X8_thrown rfl rfl rfl (by decide +kernel) ⟨Nat.le_of_ble_eq_true rfl, Nat.le_of_ble_eq_true rfl⟩) hP hD hK hS hA hN (by decide) rfl rfl rfl 0 8 rfl rfl rfl rfl hl.1 rfl (Nat.le_of_ble_eq_true rfl) d1 hf (fun H locs hP hD hS => ?_)
  refine lv_iload hx hb d4 (lv_at hl 1 rfl) ?_
  refine lv_icmp_eq (tgt := pc + 11) hx hb d6 (by omega) (fun _ => ?_) (fun q => absurd hth q)
  refine lv_iload hx hb d11 (lv_at hl 1 rfl) ?_
  refine lv_if_ne (tgt := pc + 35) hx hb d13 (by omega) (fun _ => ?_) (fun q0 => ?_)
  · refine lv_goto (tgt := 1447) hx hb d35 ht ?_
    exact K _ _ _ _ _ hc0 hs0 ⟨z, y, nx, cnt, tl, sp, tm, S, T, tx, so, bs, to, wd, ov, hv, hk, hc, th, lf, kp, hsR, hrg, htl, hrgo, hP, hD, hS⟩ (lv_sub hl [2, 3, 4, 5, 6] rfl)
  · refine lv_aload_n hx hb d16 rfl (lv_at hl 6 rfl) ?_
    refine lv_iconst (v := nI 0) hx hb d17 (by decide) ?_
    refine k_lald hx hb hK hP 0 2 rfl rfl (by decide) (by decide) d18 ?_
    refine lv_iload hx hb d19 (lv_at hl 0 rfl) ?_
    refine lv_if_eq (tgt := pc + 28) hx hb d21 (by omega) (fun q1 => ?_) (fun q1 => ?_)
    · refine lv_lconst (v := 0) hx hb d28 (by decide) ?_
      refine W.lcmp hx hb d29 ?_
      refine lv_if_eq (tgt := pc + 35) hx hb d30 (by omega) (fun _ => ?_) (fun q => absurd (k_cmp0.mpr ((hvv q0).trans (if_pos q1))) q)
      refine lv_goto (tgt := 1447) hx hb d35 ht ?_
      exact K _ _ _ _ _ hc0 hs0 ⟨z, y, nx, cnt, tl, sp, tm, S, T, tx, so, bs, to, wd, ov, hv, hk, hc, th, lf, kp, hsR, hrg, htl, hrgo, hP, hD, hS⟩ (lv_sub hl [2, 3, 4, 5, 6] rfl)
    · refine lv_lconst (v := 1) hx hb d24 (by decide) ?_
      refine lv_goto (tgt := pc + 29) hx hb d25 (by omega) ?_
      refine W.lcmp hx hb d29 ?_
      refine lv_if_eq (tgt := pc + 35) hx hb d30 (by omega) (fun _ => ?_) (fun q => absurd (k_cmp0.mpr ((hvv q0).trans (if_neg q1))) q)
      refine lv_goto (tgt := 1447) hx hb d35 ht ?_
      exact K _ _ _ _ _ hc0 hs0 ⟨z, y, nx, cnt, tl, sp, tm, S, T, tx, so, bs, to, wd, ov, hv, hk, hc, th, lf, kp, hsR, hrg, htl, hrgo, hP, hD, hS⟩ (lv_sub hl [2, 3, 4, 5, 6] rfl)
