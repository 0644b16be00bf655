/-! what the class writes of a complete text, and what the model was told -/
theorem wr_rd (tx f : Nat → Int32) (ln wb : Nat) (g : Nat → Int32) : ∀ (n s : Nat) (v : Int32), wrS tx f s = (wb, g, v) →
    wrS tx f (rdGo tx ln n v s).2 = (wb, g, (rdGo tx ln n v s).1) ∧ (∀ k, s ≤ k → k ≤ (rdGo tx ln n v s).2 → (wrS tx f k).1 = wb)
  | 0, s, v, h => by
    refine ⟨h, fun k a b => ?_⟩
    have : k = s := Nat.le_antisymm b a
    rw [this, h]
  | n + 1, s, v, h => by
    have base : wrS tx f s = (wb, g, v) ∧ (∀ k, s ≤ k → k ≤ s → (wrS tx f k).1 = wb) := ⟨h, fun k a b => by
      have : k = s := Nat.le_antisymm b a
      rw [this, h]⟩
    rw [rdGo]
    by_cases a : seesM tx ln s 48 57 = 0
    · rw [if_pos a]
      exact base
    · rw [if_neg a]
      by_cases b : 10 * v + tx s - 48 ≤ 2048
      · rw [if_pos b]
        have c : ¬ tx s = 44 := by
          intro q
          exact a (sees_z (Or.inl (by rw [q]; decide)))
        have e : wrS tx f (s + 1) = (wb, g, 10 * v + tx s - 48) := by
          rw [wrS, if_neg c, h, wDig_eq]
        obtain ⟨i1, i2⟩ := wr_rd tx f ln wb g n (s + 1) _ e
        refine ⟨i1, fun k x y => ?_⟩
        by_cases z : k = s
        · rw [z, h]
        · exact i2 k (by omega) y
      · rw [if_neg b]
        exact base
theorem insA_end (f : Nat → Int32) (n : Nat) (x : Int32) (j : Nat) : insA f n n x j = if j = n then x else f j := by
  rw [insA]
  by_cases a : j < n
  · rw [if_pos a, if_neg (by omega)]
  · rw [if_neg a]
    by_cases b : j = n
    · rw [if_pos b, if_pos b]
    · rw [if_neg b, if_neg b, if_neg (by omega)]
def tdOK (tx f : Nat → Int32) (ln a : Nat) (X : Int32 × Nat × Nat × (Nat → Int32)) : Prop :=
  (wrS tx f ln).1 + 1 = X.2.2.1 ∧ (∀ j, j < X.2.2.1 → insA (wrS tx f ln).2.1 (wrS tx f ln).1 (wrS tx f ln).1 (wrS tx f ln).2.2 j = X.2.2.2 j) ∧ (∀ k, a ≤ k → k ≤ ln → (wrS tx f k).1 ≤ 11) ∧ ∀ j, j < X.2.2.1 → 1 ≤ (X.2.2.2 j).toInt ∧ (X.2.2.2 j).toInt ≤ 2048
theorem told_go (tx f : Nat → Int32) (ln m a wb : Nat) (to g : Nat → Int32) (ha : a ≤ ln) (hw : wb ≤ 11) (hm : 11 - wb ≤ m) (hg : wrS tx f a = (wb, g, 0)) (hto : ∀ j, j < wb → g j = to j ∧ 1 ≤ (to j).toInt ∧ (to j).toInt ≤ 2048)
    (ih : wb < 11 → ∀ (a2 : Nat) (to2 g2 : Nat → Int32), a2 ≤ ln → wrS tx f a2 = (wb + 1, g2, 0) → (∀ j, j < wb + 1 → g2 j = to2 j ∧ 1 ≤ (to2 j).toInt ∧ (to2 j).toInt ≤ 2048) → rtR ln (rtGo tx ln (m - 1) (rdW tx ln a2 (wb + 1) to2)) = 1 → tdOK tx f ln a2 (rtGo tx ln (m - 1) (rdW tx ln a2 (wb + 1) to2)))
    (hr1 : rtR ln (rtGo tx ln m (rdW tx ln a wb to)) = 1) : tdOK tx f ln a (rtGo tx ln m (rdW tx ln a wb to)) := by
  have z0 : (0 : Int32).toInt = 0 := by decide
  have z44 : (44 : Int32).toInt = 44 := by decide
  have z48 : (48 : Int32).toInt = 48 := by decide
  have z49 : (49 : Int32).toInt = 49 := by decide
  have z57 : (57 : Int32).toInt = 57 := by decide
  by_cases hd : seesM tx ln a 49 57 = 0
  · have e : rdW tx ln a wb to = (0, a, wb, to) := by rw [rdW, if_pos hd]
    rw [e, rtGo_a rfl, ← rtR_0a rfl] at hr1
    exact absurd hr1 (by decide)
  · have hlt := sees_lt hd
    have hc1 : ¬ tx a < 49 := fun q => hd (sees_z (Or.inl q))
    have hc2 : ¬ 57 < tx a := fun q => hd (sees_z (Or.inr q))
    rw [i_lt, z49] at hc1
    rw [i_lt, z57] at hc2
    obtain ⟨n, hn⟩ : ∃ n, ln - a = n + 1 := ⟨ln - a - 1, by omega⟩
    have w1 : (wDig 0 (tx a)).toInt = (tx a).toInt - 48 := by
      rw [wDig_int (v := 0) (by rw [z0]; omega) (by rw [z0]; omega) (by omega) (by omega), z0]
      omega
    have z2048 : (2048 : Int32).toInt = 2048 := by decide
    have a44 : ¬ tx a = 44 := by rw [i_eq, z44]; omega
    have r0 : rdGo tx ln (ln - a) 0 a = rdGo tx ln n (wDig 0 (tx a)) (a + 1) := by
      rw [hn, rdGo, if_neg (sees_nz hlt (by rw [i_lt, z48]; omega) (by rw [i_lt, z57]; omega)), wDig_eq, if_pos (by rw [i_le, z2048]; omega)]
    obtain ⟨-, i2, i3, -, i5, i6⟩ := ei_rd tx ln wb 0 n (a + 1) (wDig 0 (tx a)) (by omega) (by omega) (by omega) (by rw [Nat.add_sub_cancel]; exact a44)
    obtain ⟨k1, k2⟩ := wr_rd tx f ln wb g (ln - a) a 0 hg
    have e : rdW tx ln a wb to = (1, (rdGo tx ln (ln - a) 0 a).2, wb + 1, upd to wb (rdGo tx ln (ln - a) 0 a).1) := by rw [rdW, if_neg hd]
    rw [e] at hr1 ⊢
    rw [r0] at hr1 k1 k2 ⊢
    generalize hr : rdGo tx ln n (wDig 0 (tx a)) (a + 1) = r at i2 i3 i5 i6 hr1 k1 k2 ⊢
    have told : ∀ (G : Nat → Int32), (∀ j, j < wb → G j = g j) → ∀ j, j < wb + 1 → insA G wb wb r.1 j = upd to wb r.1 j ∧ 1 ≤ (upd to wb r.1 j).toInt ∧ (upd to wb r.1 j).toInt ≤ 2048 := by
      intro G hG j hj
      rw [insA_end, upd]
      by_cases q : j = wb
      · rw [if_pos q, if_pos q]
        exact ⟨rfl, i5, i6⟩
      · rw [if_neg q, if_neg q, hG j (by omega)]
        exact hto j (by omega)
    by_cases c : r.2 < ln ∧ tx r.2 = 44
    · by_cases k : wb = 11
      · rw [rtGo_b (by omega)] at hr1
        rw [← rtR_0b (fun q => by have : r.2 = ln := q; omega)] at hr1
        exact absurd hr1 (by decide)
      · rw [rtGo_step (by omega) (by decide) (by omega) (tk_yes c.1 c.2)] at hr1 ⊢
        have e2 : wrS tx f (r.2 + 1) = (wb + 1, insA g wb wb r.1, 0) := by
          rw [wrS, if_pos c.2, k1]
        obtain ⟨t1, t2, t3, t4⟩ := ih (by omega) (r.2 + 1) (upd to wb r.1) (insA g wb wb r.1) (by omega) e2 (told g (fun _ _ => rfl)) hr1
        refine ⟨t1, t2, fun x h1 h2 => ?_, t4⟩
        by_cases y : x ≤ r.2
        · rw [k2 x h1 y]
          exact hw
        · exact t3 x (by omega) h2
    · have nk : r.2 = ln ∨ ¬ tx r.2 = 44 := by
        by_cases y : r.2 = ln
        · exact Or.inl y
        · exact Or.inr (fun q => c ⟨by omega, q⟩)
      rw [rtGo_c (tk_no nk)] at hr1 ⊢
      have y : r.2 = ln := by
        by_cases y : r.2 = ln
        · exact y
        · rw [← rtR_0b (show ¬ (1, r.2, wb + 1, upd to wb r.1).2.1 = ln from y)] at hr1
          exact absurd hr1 (by decide)
      rw [y] at k1 k2
      refine ⟨by rw [k1], fun j hj => ?_, fun x h1 h2 => by rw [k2 x h1 h2]; exact hw, fun j hj => (told g (fun _ _ => rfl) j hj).2⟩
      rw [k1]
      exact (told g (fun _ _ => rfl) j hj).1
theorem told_rt (tx f : Nat → Int32) (ln : Nat) : ∀ (m a wb : Nat) (to g : Nat → Int32), a ≤ ln → wb ≤ 11 → 11 - wb ≤ m → wrS tx f a = (wb, g, 0) → (∀ j, j < wb → g j = to j ∧ 1 ≤ (to j).toInt ∧ (to j).toInt ≤ 2048) →
    rtR ln (rtGo tx ln m (rdW tx ln a wb to)) = 1 → tdOK tx f ln a (rtGo tx ln m (rdW tx ln a wb to)) := by
  intro m
  induction m with
  | zero =>
    intro a wb to g h1 h2 h3 h4 h5 h6
    exact told_go tx f ln 0 a wb to g h1 h2 h3 h4 h5 (fun q => by omega) h6
  | succ m ih =>
    intro a wb to g h1 h2 h3 h4 h5 h6
    exact told_go tx f ln (m + 1) a wb to g h1 h2 h3 h4 h5 (fun q a2 to2 g2 x1 x2 x3 x4 => ih a2 (wb + 1) to2 g2 x1 (by omega) (by omega) x2 x3 x4) h6
theorem told_all {tx f to : Nat → Int32} {ln m : Nat} (hm : 11 ≤ m) (h : isC tx ln = 1) : tdOK tx f ln 0 (rtGo tx ln m (rdW tx ln 0 0 to)) :=
  told_rt tx f ln m 0 0 to f (by omega) (by omega) (by omega) rfl (fun j hj => by omega) (by rw [← isC_rt hm]; exact h)
