/-! what is weighed, on both sides -/
theorem sR_wg {z y : StV} (h : sR z y) : wgS z.2.2.2.2.2.2.2.1 z.2.2.1 z.2.2.2.1 z.2.2.2.2.1 z.1 z.2.2.2.2.2.1 = wgS y.2.2.2.2.2.2.2.1 y.2.2.1 y.2.2.2.1 y.2.2.2.2.1 y.1 y.2.2.2.2.2.1 := by
  obtain ⟨⟨h1, h2, h3, h4, h5, h6, h7, h8, h9⟩, -⟩ := h
  rw [← h1, ← h3, ← h4, ← h5, ← h6]
  exact wgS_cg _ h8
theorem sR_id {z y : StV} (h : sR z y) {leak off gl v : Int32} : wgS z.2.2.2.2.2.2.2.1 leak off gl v z.2.2.2.2.2.1 = wgS y.2.2.2.2.2.2.2.1 leak off gl v y.2.2.2.2.2.1 := by
  obtain ⟨⟨h1, h2, h3, h4, h5, h6, h7, h8, h9⟩, -⟩ := h
  rw [← h6]
  exact wgS_cg _ h8
/-- a conversion, kept in the log -/
theorem sR_cv {z y : StV} (h : sR z y) {w x : Int32 × Int32 × Int32} (hw : w = wgS z.2.2.2.2.2.2.2.1 z.2.2.1 z.2.2.2.1 z.2.2.2.2.1 z.1 z.2.2.2.2.2.1) (hx : x = w) :
    sR (w.1, z.2.1, z.2.2.1, z.2.2.2.1, 0, z.2.2.2.2.2.1, min (z.2.2.2.2.2.2.1 + 1) 8, z.2.2.2.2.2.2.2.1, shF z.2.2.2.2.2.2.2.2.1 z.1, shF z.2.2.2.2.2.2.2.2.2.1 w.2.1, shF z.2.2.2.2.2.2.2.2.2.2 w.2.2)
      (x.1, y.2.1, y.2.2.1, y.2.2.2.1, 0, y.2.2.2.2.2.1, min (y.2.2.2.2.2.2.1 + 1) 8, y.2.2.2.2.2.2.2.1, shF y.2.2.2.2.2.2.2.2.1 y.1, shF y.2.2.2.2.2.2.2.2.2.1 x.2.1, shF y.2.2.2.2.2.2.2.2.2.2 x.2.2) := by
  subst hx
  obtain ⟨⟨h1, h2, h3, h4, h5, h6, h7, h8, h9⟩, w1, w2, w3, w4, w5, w6⟩ := h
  refine ⟨⟨rfl, h2, h3, h4, rfl, h6, ?_, h8, ?_⟩, ?_, w2, w3, w4, ?_, w6⟩
  · show min (z.2.2.2.2.2.2.1 + 1) 8 = min (y.2.2.2.2.2.2.1 + 1) 8
    rw [h7]
  · show (shF z.2.2.2.2.2.2.2.2.1 z.1, shF z.2.2.2.2.2.2.2.2.2.1 x.2.1, shF z.2.2.2.2.2.2.2.2.2.2 x.2.2) = (shF y.2.2.2.2.2.2.2.2.1 y.1, shF y.2.2.2.2.2.2.2.2.2.1 x.2.1, shF y.2.2.2.2.2.2.2.2.2.2 x.2.2)
    rw [h9, h1]
  · show 0 ≤ x.1.toInt ∧ x.1.toInt ≤ 65535
    rw [hw, wgS_left]
    exact hItr_rng w3 _ w1
  · show min (z.2.2.2.2.2.2.1 + 1) 8 ≤ 8
    omega
theorem sR_hold {z y : StV} (h : sR z y) (n : Nat) : hItr z.2.2.1 n z.1 = hItr y.2.2.1 n y.1 ∧ 0 ≤ (hItr z.2.2.1 n z.1).toInt ∧ (hItr z.2.2.1 n z.1).toInt ≤ 65535 :=
  ⟨by rw [h.1.1, h.1.2.2.1], hItr_rng h.2.2.2.1 n h.2.1⟩
theorem sR_samp {z y : StV} (h : sR z y) (n : Nat) {inp : Int32} (hi : 0 ≤ inp.toInt ∧ inp.toInt ≤ 65535) : sItr inp z.2.1 n z.1 = sItr inp y.2.1 n y.1 ∧ 0 ≤ (sItr inp z.2.1 n z.1).toInt ∧ (sItr inp z.2.1 n z.1).toInt ≤ 65535 :=
  ⟨by rw [h.1.1, h.1.2.1], sItr_rng hi h.2.2.1 n h.2.1⟩
theorem sR_sumW {z y : StV} (h : sR z y) : sumW z.2.2.2.2.2.2.2.1 z.2.2.2.2.2.1 = sumW y.2.2.2.2.2.2.2.1 y.2.2.2.2.2.1 := by
  rw [← h.1.2.2.2.2.2.1]
  exact sumW_cg _ h.1.2.2.2.2.2.2.2.1
theorem sR_misp {z y : StV} (h : sR z y) : misp z.2.2.2.2.2.2.2.1 z.2.2.2.2.2.1 z.2.2.2.2.2.1 = misp y.2.2.2.2.2.2.2.1 y.2.2.2.2.2.1 y.2.2.2.2.2.1 := by
  rw [← h.1.2.2.2.2.2.1]
  exact misp_cg h.1.2.2.2.2.2.2.2.1 _ (Nat.le_refl _)
theorem sR_mdC {z y : StV} (h : sR z y) (i m : Nat) : mdC z.2.2.2.2.2.2.2.1 z.2.2.2.2.2.1 i m = mdC y.2.2.2.2.2.2.2.1 y.2.2.2.2.2.1 i m := by
  rw [← h.1.2.2.2.2.2.1]
  exact mdC_cg h.1.2.2.2.2.2.2.2.1 m
theorem sR_wN {z y : StV} (h : sR z y) : ∀ k, k < z.2.2.2.2.2.1 → wN (z.2.2.2.2.2.2.2.1 k) ≤ 2048 := fun k hk => wN_le (n := 2048) (h.2.2.2.2.2.2 k hk).2
theorem sR_sums {z y : StV} (h : sR z y) : cntL (fillG z.2.2.2.2.2.2.2.1 z.2.2.2.2.2.1) 64 = nI (cntB (sumB y.2.2.2.2.2.2.2.1 y.2.2.2.2.2.1) 4096) := by
  rw [sums_eq (sR_wN h), ← h.1.2.2.2.2.2.1, sumB_cg _ h.1.2.2.2.2.2.2.2.1]
theorem sR_least {z y : StV} (h : sR z y) : lmGo (fillG z.2.2.2.2.2.2.2.1 z.2.2.2.2.2.1) 4095 1 = lmS (sumB y.2.2.2.2.2.2.2.1 y.2.2.2.2.2.1) 4095 1 := by
  rw [least_eq (sR_wN h), ← h.1.2.2.2.2.2.1, sumB_cg _ h.1.2.2.2.2.2.2.2.1]
theorem sR_err {z y : StV} (h : sR z y) (n : Nat) : errS z.2.2.2.2.2.2.2.2.1 z.2.2.2.2.2.2.2.2.2.2 n = errS y.2.2.2.2.2.2.2.2.1 y.2.2.2.2.2.2.2.2.2.2 n := by
  rw [h.1.2.2.2.2.2.2.2.2]
