/-! what the law's cases need of both sides -/
theorem lx_rngN {p lo hi : Int32} {a b : Nat} (hlo : lo.toInt = (a : Int)) (hhi : hi.toInt = (b : Int)) (h : ¬ (p < lo ∨ hi < p)) : ∃ n, a ≤ n ∧ n ≤ b ∧ p = nI n := by
  have h1 : ¬ p < lo := fun q => h (Or.inl q)
  have h2 : ¬ hi < p := fun q => h (Or.inr q)
  rw [i_lt] at h1 h2
  have hb := p.toInt_lt
  refine ⟨p.toInt.toNat, by omega, by omega, ?_⟩
  rw [i_eq, nI_toInt (by omega)]
  omega
theorem lx_rngI {p lo hi : Int32} {a b : Int} (hlo : lo.toInt = a) (hhi : hi.toInt = b) (h : ¬ (p < lo ∨ hi < p)) : a ≤ p.toInt ∧ p.toInt ≤ b := by
  have h1 : ¬ p < lo := fun q => h (Or.inl q)
  have h2 : ¬ hi < p := fun q => h (Or.inr q)
  rw [i_lt] at h1 h2
  omega
theorem lx_no {p lo hi : Int32} (h : ¬ (p < lo ∨ hi < p)) : ¬ p < lo ∧ p ≤ hi := ⟨fun q => h (Or.inl q), Int32.not_lt.mp (fun q => h (Or.inr q))⟩
theorem lx_nb {p lo hi : Int32} (h : ¬ (p < lo ∨ hi ≤ p)) : ¬ p < lo ∧ p < hi := ⟨fun q => h (Or.inl q), Int32.not_le.mp (fun q => h (Or.inr q))⟩
theorem lx_idx {p : Int32} {n : Nat} (hn : n ≤ 4096) (h : ¬ (p < 0 ∨ nI n ≤ p)) : ∃ i, i < n ∧ p = nI i := i_idx (by omega) (lx_nb h).1 (lx_nb h).2
theorem lx_ins {p : Int32} {n : Nat} (hn : n ≤ 4000) (h : p < 0 ∨ nI (n + 1) ≤ p) : inM p 0 (nI n) = 0 := by
  refine inM_no ?_
  rcases h with h | h
  · exact Or.inl h
  · right
    rw [i_le, nI_toInt (by omega)] at h
    rw [i_lt, nI_toInt (by omega)]
    omega
theorem lx_n11 : (11 : Int32) = nI 11 := by decide
theorem lx_n12 : (12 : Int32) = nI 12 := by decide
theorem lx_gl {p : Int32} (h : p < 0 ∨ 12 ≤ p) : inM p 0 11 = 0 := by
  rw [lx_n11]
  rw [lx_n12] at h
  exact lx_ins (n := 11) (by decide) h
theorem lx_gli {p : Int32} (h : ¬ (p < 0 ∨ 12 ≤ p)) : ∃ i, i < 12 ∧ p = nI i := by
  rw [lx_n12] at h
  exact lx_idx (n := 12) (by decide) h
theorem lx_iw {i n : Nat} (h : i < n) (hn : n ≤ 4096) : ¬ inM (nI i) 0 (nI n - 1) = 0 := by
  rw [inM_w h hn]
  decide
theorem lx_ii {i n : Nat} (h : i < n + 1) (hn : n ≤ 4000) : ¬ inM (nI i) 0 (nI n) = 0 := by
  have e : inM (nI i) (nI 0) (nI n) = 1 := inM_n (a := 0) (Nat.zero_le _) (by omega) (by omega)
  rw [nI_0] at e
  rw [e]
  decide
theorem lx_iv {p lo hi : Int32} (h : ¬ (p < lo ∨ hi < p)) : ¬ inM p lo hi = 0 := by
  rw [inM_ok h]
  decide
theorem lx_wx {z y : StV} (h : sR z y) : z.2.2.2.2.2.1 = y.2.2.2.2.2.1 ∧ z.2.2.2.2.2.2.1 = y.2.2.2.2.2.2.1 ∧ z.2.2.2.2.2.1 ≤ 12 ∧ 1 ≤ z.2.2.2.2.2.1 ∧ z.2.2.2.2.2.2.1 ≤ 8 ∧ y.2.2.2.2.2.1 ≤ 12 ∧ y.2.2.2.2.2.2.1 ≤ 8 := by
  have e1 := h.1.2.2.2.2.2.1
  have e2 := h.1.2.2.2.2.2.2.1
  have e3 := h.2.2.2.2.1
  have e4 := h.2.2.2.2.2.1
  exact ⟨e1, e2, e3.2, e3.1, e4, by omega, by omega⟩
theorem lx_hf {z y : StV} (h : sR z y) : ∀ k, k < z.2.2.2.2.2.1 → 0 ≤ (z.2.2.2.2.2.2.2.1 k).toInt ∧ (z.2.2.2.2.2.2.2.1 k).toInt ≤ 2048 := fun k hk => by
  have h9 := h.2.2.2.2.2.2 k hk
  omega
theorem lx_hfy {z y : StV} (h : sR z y) : ∀ k, k < y.2.2.2.2.2.1 → 1 ≤ (y.2.2.2.2.2.2.2.1 k).toInt ∧ (y.2.2.2.2.2.2.2.1 k).toInt ≤ 2048 := fun k hk => by
  rw [← h.1.2.2.2.2.2.1] at hk
  rw [← h.1.2.2.2.2.2.2.2.1 k hk]
  exact h.2.2.2.2.2.2 k hk
theorem sR_f {z y : StV} (h : sR z y) {k : Nat} (hk : k < z.2.2.2.2.2.1) : z.2.2.2.2.2.2.2.1 k = y.2.2.2.2.2.2.2.1 k := h.1.2.2.2.2.2.2.2.1 k hk
theorem sR_fc {z y : StV} (h : sR z y) (k : Nat) : z.2.2.2.2.2.2.2.2.2.2 k = y.2.2.2.2.2.2.2.2.2.2 k := by rw [h.1.2.2.2.2.2.2.2.2]
theorem sR_fk {z y : StV} (h : sR z y) (k : Nat) : z.2.2.2.2.2.2.2.2.2.1 k = y.2.2.2.2.2.2.2.2.2.1 k := by rw [h.1.2.2.2.2.2.2.2.2]
theorem sR_fe {z y : StV} (h : sR z y) (k : Nat) : 16 * z.2.2.2.2.2.2.2.2.2.2 k - z.2.2.2.2.2.2.2.2.1 k = 16 * y.2.2.2.2.2.2.2.2.2.2 k - y.2.2.2.2.2.2.2.2.1 k := by rw [h.1.2.2.2.2.2.2.2.2]
theorem sR_ic {z y : StV} (h : sR z y) : wgS z.2.2.2.2.2.2.2.1 0 0 0 z.1 z.2.2.2.2.2.1 = wgS y.2.2.2.2.2.2.2.1 0 0 0 y.1 y.2.2.2.2.2.1 := by
  rw [← h.1.1]
  exact sR_id h
theorem sR_tc2 {z y : StV} (h : sR z y) : tcGo z.2.2.2.2.2.2.2.1 z.2.2.2.2.2.1 z.2.2.1 (wgS z.2.2.2.2.2.2.2.1 0 0 0 z.1 z.2.2.2.2.2.1).2.2 200 1 z.1 = tcGo y.2.2.2.2.2.2.2.1 y.2.2.2.2.2.1 y.2.2.1 (wgS y.2.2.2.2.2.2.2.1 0 0 0 y.1 y.2.2.2.2.2.1).2.2 200 1 y.1 := by
  rw [sR_ic h]
  exact sR_tc h 200 1
theorem sR_dig {z y : StV} (h : sR z y) : digL z.2.2.2.2.2.2.2.2.1 z.2.2.2.2.2.2.2.2.2.1 z.2.2.2.2.2.2.2.2.2.2 (digW z.2.2.2.2.2.2.2.1 z.2.2.2.2.2.1 (mixD (mixD (mixD (mixD (mixD (mixD (mixD (mixD 8399 z.1) (nI z.2.2.2.2.2.1)) (sumW z.2.2.2.2.2.2.2.1 z.2.2.2.2.2.1)) ((wgS z.2.2.2.2.2.2.2.1 z.2.2.1 z.2.2.2.1 z.2.2.2.2.1 z.1 z.2.2.2.2.2.1).2.2)) (cntL (fillG z.2.2.2.2.2.2.2.1 z.2.2.2.2.2.1) 64)) (nI (lmGo (fillG z.2.2.2.2.2.2.2.1 z.2.2.2.2.2.1) 4095 1))) (tcGo z.2.2.2.2.2.2.2.1 z.2.2.2.2.2.1 z.2.2.1 (wgS z.2.2.2.2.2.2.2.1 0 0 0 z.1 z.2.2.2.2.2.1).2.2 200 1 z.1)) (nI z.2.2.2.2.2.2.1)) z.2.2.2.2.2.1) z.2.2.2.2.2.2.1
    = digL y.2.2.2.2.2.2.2.2.1 y.2.2.2.2.2.2.2.2.2.1 y.2.2.2.2.2.2.2.2.2.2 (digW y.2.2.2.2.2.2.2.1 y.2.2.2.2.2.1 (mixD (mixD (mixD (mixD (mixD (mixD (mixD (mixD 8399 y.1) (nI y.2.2.2.2.2.1)) (sumW y.2.2.2.2.2.2.2.1 y.2.2.2.2.2.1)) ((wgS y.2.2.2.2.2.2.2.1 y.2.2.1 y.2.2.2.1 y.2.2.2.2.1 y.1 y.2.2.2.2.2.1).2.2)) (nI (cntB (sumB y.2.2.2.2.2.2.2.1 y.2.2.2.2.2.1) 4096))) (nI (lmS (sumB y.2.2.2.2.2.2.2.1 y.2.2.2.2.2.1) 4095 1))) (tcGo y.2.2.2.2.2.2.2.1 y.2.2.2.2.2.1 y.2.2.1 (wgS y.2.2.2.2.2.2.2.1 0 0 0 y.1 y.2.2.2.2.2.1).2.2 200 1 y.1)) (nI y.2.2.2.2.2.2.1)) y.2.2.2.2.2.1) y.2.2.2.2.2.2.1 := by
  have e := sR_rest h
  rw [sR_sumW h, sR_wg h, sR_sums h, sR_least h, sR_tc2 h, sR_dL h, sR_dW h, e.2.2.2.1, e.1, e.2.1]
theorem sR_smp {z y : StV} (h : sR z y) (n : Nat) {inp : Int32} (hi : 0 ≤ inp.toInt ∧ inp.toInt ≤ 65535) : sR (sItr inp z.2.1 n z.1, z.2) (sItr inp y.2.1 n y.1, y.2) := by
  have h9 := sR_samp h n hi
  rw [← h9.1]
  exact sR_v h h9.2
theorem sR_hld {z y : StV} (h : sR z y) (n : Nat) : sR (hItr z.2.2.1 n z.1, z.2) (hItr y.2.2.1 n y.1, y.2) := by
  have h9 := sR_hold h n
  rw [← h9.1]
  exact sR_v h h9.2
theorem sR_glt {z y : StV} (h : sR z y) (g : Int32) : sR (z.1, z.2.1, z.2.2.1, z.2.2.2.1, z.2.2.2.2.1 ||| g, z.2.2.2.2.2) (y.1, y.2.1, y.2.2.1, y.2.2.2.1, y.2.2.2.2.1 ||| g, y.2.2.2.2.2) := by
  rw [← h.1.2.2.2.2.1]
  exact sR_gl h
theorem sR_set {z y : StV} (h : sR z y) {i : Nat} {x : Int32} (hx : 1 ≤ x.toInt ∧ x.toInt ≤ 2048) : sR (z.1, z.2.1, z.2.2.1, z.2.2.2.1, z.2.2.2.2.1, z.2.2.2.2.2.1, z.2.2.2.2.2.2.1, upd z.2.2.2.2.2.2.2.1 i x, z.2.2.2.2.2.2.2.2) (y.1, y.2.1, y.2.2.1, y.2.2.2.1, y.2.2.2.2.1, y.2.2.2.2.2.1, y.2.2.2.2.2.2.1, upd y.2.2.2.2.2.2.2.1 i x, y.2.2.2.2.2.2.2.2) := by
  rw [← h.1.2.2.2.2.2.1]
  exact sR_w h h.2.2.2.2.1 (set_eq h.1.2.2.2.2.2.2.2.1) (set_rg h.2.2.2.2.2.2 hx)
theorem sR_ins {z y : StV} (h : sR z y) {i : Nat} {x : Int32} (hn : z.2.2.2.2.2.1 < 12) (hi : i ≤ z.2.2.2.2.2.1) (hx : 1 ≤ x.toInt ∧ x.toInt ≤ 2048) : sR (z.1, z.2.1, z.2.2.1, z.2.2.2.1, z.2.2.2.2.1, z.2.2.2.2.2.1 + 1, z.2.2.2.2.2.2.1, insA z.2.2.2.2.2.2.2.1 i z.2.2.2.2.2.1 x, z.2.2.2.2.2.2.2.2) (y.1, y.2.1, y.2.2.1, y.2.2.2.1, y.2.2.2.2.1, y.2.2.2.2.2.1 + 1, y.2.2.2.2.2.2.1, insA y.2.2.2.2.2.2.2.1 i y.2.2.2.2.2.1 x, y.2.2.2.2.2.2.2.2) := by
  rw [← h.1.2.2.2.2.2.1]
  exact sR_w h (by omega) (ins_eq hi h.1.2.2.2.2.2.2.2.1) (ins_rg hi h.2.2.2.2.2.2 hx)
theorem sR_del {z y : StV} (h : sR z y) {i : Nat} (h2 : 2 ≤ z.2.2.2.2.2.1) : sR (z.1, z.2.1, z.2.2.1, z.2.2.2.1, z.2.2.2.2.1, z.2.2.2.2.2.1 - 1, z.2.2.2.2.2.2.1, delA z.2.2.2.2.2.2.2.1 i z.2.2.2.2.2.1, z.2.2.2.2.2.2.2.2) (y.1, y.2.1, y.2.2.1, y.2.2.2.1, y.2.2.2.2.1, y.2.2.2.2.2.1 - 1, y.2.2.2.2.2.2.1, delM y.2.2.2.2.2.2.2.1 i y.2.2.2.2.2.1, y.2.2.2.2.2.2.2.2) := by
  have h9 := (lx_wx h).2.2.1
  rw [← h.1.2.2.2.2.2.1]
  exact sR_w h (by omega) (del_eq h.1.2.2.2.2.2.2.2.1) (del_rg h.2.2.2.2.2.2)
theorem sR_srt {z y : StV} (h : sR z y) (so : Nat → Int32) : sR (z.1, z.2.1, z.2.2.1, z.2.2.2.1, z.2.2.2.2.1, z.2.2.2.2.2.1, z.2.2.2.2.2.2.1, srtG z.2.2.2.2.2.2.2.1 (z.2.2.2.2.2.1 - 1), z.2.2.2.2.2.2.2.2) (y.1, y.2.1, y.2.2.1, y.2.2.2.1, y.2.2.2.2.1, y.2.2.2.2.2.1, y.2.2.2.2.2.2.1, rkF y.2.2.2.2.2.2.2.1 y.2.2.2.2.2.1 so, y.2.2.2.2.2.2.2.2) := by
  rw [← h.1.2.2.2.2.2.1]
  exact sR_w h h.2.2.2.2.1 (srt_eq h.2.2.2.2.1.1 h.1.2.2.2.2.2.2.2.1) (srt_rg h.2.2.2.2.1.1 h.2.2.2.2.2.2)
theorem sR_ld {z y : StV} {tx to : Nat → Int32} {tl : Nat} (h : sR z y) (hc : isC tx tl = 1) : sR (z.1, z.2.1, z.2.2.1, z.2.2.2.1, z.2.2.2.2.1, (wrS tx z.2.2.2.2.2.2.2.1 tl).1 + 1, z.2.2.2.2.2.2.1, insA (wrS tx z.2.2.2.2.2.2.2.1 tl).2.1 (wrS tx z.2.2.2.2.2.2.2.1 tl).1 (wrS tx z.2.2.2.2.2.2.2.1 tl).1 (wrS tx z.2.2.2.2.2.2.2.1 tl).2.2, z.2.2.2.2.2.2.2.2)
    (y.1, y.2.1, y.2.2.1, y.2.2.2.1, y.2.2.2.2.1, (rtGo tx tl 13 (rdW tx tl 0 0 to)).2.2.1, y.2.2.2.2.2.2.1, ldF (rtGo tx tl 13 (rdW tx tl 0 0 to)).2.2.2 (rtGo tx tl 13 (rdW tx tl 0 0 to)).2.2.1, y.2.2.2.2.2.2.2.2) := by
  obtain ⟨g1, g2, g3, g4⟩ := told_all (f := z.2.2.2.2.2.2.2.1) (to := to) (m := 13) (by omega) hc
  have g5 := g3 tl (Nat.zero_le _) (Nat.le_refl _)
  rw [g1]
  refine sR_w h (by omega) (fun k hk => ?_) (fun k hk => ?_)
  · rw [ldF, if_pos hk]
    exact g2 k hk
  · rw [g2 k hk]
    exact g4 k hk
theorem lx_ldm {tx f to : Nat → Int32} {tl : Nat} (hc : isC tx tl = 1) : (rtGo tx tl 13 (rdW tx tl 0 0 to)).2.2.1 ≤ 12 ∧ (∀ k, k ≤ tl → (wrS tx f k).1 ≤ 11) ∧ (wrS tx f tl).1 + 1 = (rtGo tx tl 13 (rdW tx tl 0 0 to)).2.2.1 := by
  obtain ⟨g1, g2, g3, g4⟩ := told_all (f := f) (to := to) (m := 13) (by omega) hc
  have g5 := g3 tl (Nat.zero_le _) (Nat.le_refl _)
  exact ⟨by omega, fun k hk => g3 k (Nat.zero_le _) hk, g1⟩
theorem lx_isC {tx : Nat → Int32} {tl : Nat} (h : ¬ isC tx tl = 1) : isC tx tl = 0 := by
  rw [isC] at h ⊢
  split at h
  · exact absurd rfl h
  · rename_i q
    rw [if_neg q]
theorem sR_mean {z y : StV} (h : sR z y) : mErr z.2.2.2.2.2.2.1 (errS z.2.2.2.2.2.2.2.2.1 z.2.2.2.2.2.2.2.2.2.2 z.2.2.2.2.2.2.1) = mErr y.2.2.2.2.2.2.1 (errS y.2.2.2.2.2.2.2.2.1 y.2.2.2.2.2.2.2.2.2.2 y.2.2.2.2.2.2.1) := by
  rw [sR_err h, h.1.2.2.2.2.2.2.1]
