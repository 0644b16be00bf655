/-! digest and change, on both sides -/
theorem tcGo_cg2 {f g : Nat → Int32} {n : Nat} {leak c0 : Int32} (h : ∀ k, k < n → f k = g k) (m t : Nat) (v : Int32) : tcGo f n leak c0 m t v = tcGo g n leak c0 m t v := tcGo_cg h m t v
theorem sR_tc {z y : StV} (h : sR z y) {c0 : Int32} (m t : Nat) : tcGo z.2.2.2.2.2.2.2.1 z.2.2.2.2.2.1 z.2.2.1 c0 m t z.1 = tcGo y.2.2.2.2.2.2.2.1 y.2.2.2.2.2.1 y.2.2.1 c0 m t y.1 := by
  rw [← h.1.1, ← h.1.2.2.1, ← h.1.2.2.2.2.2.1]
  exact tcGo_cg h.1.2.2.2.2.2.2.2.1 m t z.1
theorem sR_dW {z y : StV} (h : sR z y) (h0 : Int64) : digW z.2.2.2.2.2.2.2.1 z.2.2.2.2.2.1 h0 z.2.2.2.2.2.1 = digW y.2.2.2.2.2.2.2.1 y.2.2.2.2.2.1 h0 y.2.2.2.2.2.1 := by
  rw [← h.1.2.2.2.2.2.1]
  exact digW_cg h.1.2.2.2.2.2.2.2.1 _ (Nat.le_refl _)
theorem sR_dL {z y : StV} (h : sR z y) (h0 : Int64) : digL z.2.2.2.2.2.2.2.2.1 z.2.2.2.2.2.2.2.2.2.1 z.2.2.2.2.2.2.2.2.2.2 h0 z.2.2.2.2.2.2.1 = digL y.2.2.2.2.2.2.2.2.1 y.2.2.2.2.2.2.2.2.2.1 y.2.2.2.2.2.2.2.2.2.2 h0 y.2.2.2.2.2.2.1 := by
  rw [h.1.2.2.2.2.2.2.2.2, h.1.2.2.2.2.2.2.1]
/-- two words alike a third in the same way are alike -/
theorem sR_rest {z y : StV} (h : sR z y) : z.2.2.2.2.2.1 = y.2.2.2.2.2.1 ∧ z.2.2.2.2.2.2.1 = y.2.2.2.2.2.2.1 ∧ z.2.2.2.2.2.2.2.2 = y.2.2.2.2.2.2.2.2 ∧ z.1 = y.1 ∧ z.2.1 = y.2.1 ∧ z.2.2.1 = y.2.2.1 ∧ z.2.2.2.1 = y.2.2.2.1 ∧ z.2.2.2.2.1 = y.2.2.2.2.1 :=
  ⟨h.1.2.2.2.2.2.1, h.1.2.2.2.2.2.2.1, h.1.2.2.2.2.2.2.2.2, h.1.1, h.1.2.1, h.1.2.2.1, h.1.2.2.2.1, h.1.2.2.2.2.1⟩
