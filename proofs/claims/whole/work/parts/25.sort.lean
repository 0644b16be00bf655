/-! the class's insertion sort and the model's ranks -/
def cGE (h : Nat → Int32) (y : Int32) : Nat → Nat
  | 0 => 0
  | k + 1 => cGE h y k + if y ≤ h k then 1 else 0
theorem cGE_cg {h g : Nat → Int32} {y : Int32} : ∀ n, (∀ k, k < n → h k = g k) → cGE h y n = cGE g y n
  | 0, _ => rfl
  | n + 1, e => by rw [cGE, cGE, cGE_cg n (fun k hk => e k (by omega)), e n (by omega)]
theorem cGE_all {h : Nat → Int32} {y : Int32} : ∀ n, (∀ k, k < n → y ≤ h k) → cGE h y n = n
  | 0, _ => rfl
  | n + 1, e => by rw [cGE, cGE_all n (fun k hk => e k (by omega)), if_pos (e n (by omega))]
theorem cGE_cut {h : Nat → Int32} {y : Int32} {p : Nat} (h1 : ∀ k, k < p → y ≤ h k) : ∀ n, p ≤ n → (∀ k, p ≤ k → k < n → ¬ y ≤ h k) → cGE h y n = p
  | 0, hp, _ => by
    have : p = 0 := by omega
    rw [this, cGE]
  | n + 1, hp, e => by
    by_cases q : p = n + 1
    · rw [q]
      exact cGE_all (n + 1) (fun k hk => h1 k (by omega))
    · rw [cGE, cGE_cut h1 n (by omega) (fun k a b => e k a (by omega)), if_neg (e n (by omega) (by omega)), Nat.add_zero]
theorem i_nle {x y : Int32} : ¬ x ≤ y ↔ y < x := by rw [i_le, i_lt]; omega
theorem i_nlt {x y : Int32} : ¬ x < y ↔ y ≤ x := by rw [i_le, i_lt]; omega
theorem i_letr {x y z : Int32} (h1 : x ≤ y) (h2 : y ≤ z) : x ≤ z := by rw [i_le] at *; omega
/-- where the insertion puts x -/
theorem insG_at : ∀ (J : Nat) (g : Nat → Int32) (x : Int32), ∃ p, p ≤ J ∧ (p = 0 ∨ x ≤ g (p - 1)) ∧ (∀ k, p ≤ k → k < J → ¬ x ≤ g k) ∧ ∀ j, insG g x J j = if j < p then g j else if j = p then x else if j ≤ J then g (j - 1) else g j
  | 0, g, x => ⟨0, by omega, Or.inl rfl, fun k _ h => by omega, fun j => by
      rw [insG, upd]
      by_cases h : j = 0
      · rw [if_pos h, if_neg (by omega), if_pos h]
      · rw [if_neg h, if_neg (by omega), if_neg h, if_neg (by omega)]⟩
  | J + 1, g, x => by
    by_cases h : g J < x
    · obtain ⟨p, h1, h2, h3, h4⟩ := insG_at J (upd g (J + 1) (g J)) x
      have u : ∀ k, k ≤ J → upd g (J + 1) (g J) k = g k := fun k hk => by rw [upd, if_neg (by omega)]
      refine ⟨p, by omega, ?_, ?_, ?_⟩
      · rcases h2 with h2 | h2
        · exact Or.inl h2
        · by_cases q : p = 0
          · exact Or.inl q
          · rw [u _ (by omega)] at h2
            exact Or.inr h2
      · intro k a b
        by_cases q : k = J
        · rw [q]
          exact i_nle.mpr h
        · have := h3 k a (by omega)
          rw [u _ (by omega)] at this
          exact this
      · intro j
        rw [insG, if_pos h, h4]
        by_cases q1 : j < p
        · rw [if_pos q1, if_pos q1, u _ (by omega)]
        · rw [if_neg q1, if_neg q1]
          by_cases q2 : j = p
          · rw [if_pos q2, if_pos q2]
          · rw [if_neg q2, if_neg q2]
            by_cases q3 : j ≤ J
            · rw [if_pos q3, if_pos (by omega), u _ (by omega)]
            · rw [if_neg q3, upd]
              by_cases q4 : j = J + 1
              · rw [if_pos q4, if_pos (by omega), q4]
                rfl
              · rw [if_neg q4, if_neg (by omega)]
    · refine ⟨J + 1, by omega, Or.inr (i_nlt.mp h), fun k a b => by omega, fun j => ?_⟩
      rw [insG, if_neg h, upd]
      by_cases q : j = J + 1
      · rw [if_pos q, if_neg (by omega), if_pos q]
      · rw [if_neg q, if_neg q]
        by_cases q1 : j < J + 1
        · rw [if_pos q1]
        · rw [if_neg q1, if_neg (by omega)]
theorem insG_cnt (y : Int32) : ∀ (J : Nat) (g : Nat → Int32) (x : Int32), cGE (insG g x J) y (J + 1) = cGE g y J + if y ≤ x then 1 else 0
  | 0, g, x => by
    have e : insG g x 0 0 = x := by rw [insG, upd, if_pos rfl]
    show 0 + (if y ≤ insG g x 0 0 then 1 else 0) = 0 + _
    rw [e]
  | J + 1, g, x => by
    by_cases h : g J < x
    · have e : insG g x (J + 1) = insG (upd g (J + 1) (g J)) x J := by rw [insG, if_pos h]
      obtain ⟨p, h1, -, -, h4⟩ := insG_at J (upd g (J + 1) (g J)) x
      have e2 : insG (upd g (J + 1) (g J)) x J (J + 1) = g J := by rw [h4, if_neg (by omega), if_neg (by omega), if_neg (by omega), upd, if_pos rfl]
      rw [e, cGE, insG_cnt y J, e2, cGE_cg (g := g) J (fun k hk => by rw [upd, if_neg (by omega)]), cGE.eq_2 g y J]
      omega
    · rw [insG, if_neg h, cGE, upd, if_pos rfl, cGE_cg (g := g) (J + 1) (fun k hk => by rw [upd, if_neg (by omega)])]
theorem srtG_hi (f : Nat → Int32) : ∀ (m j : Nat), m < j → srtG f m j = f j
  | 0, _, _ => rfl
  | m + 1, j, h => by
    obtain ⟨p, h1, -, -, h4⟩ := insG_at (m + 1) (srtG f m) (srtG f m (m + 1))
    rw [srtG, h4, if_neg (by omega), if_neg (by omega), if_neg (by omega)]
    exact srtG_hi f m j (by omega)
theorem srtG_cnt (f : Nat → Int32) (y : Int32) : ∀ m, cGE (srtG f m) y (m + 1) = cGE f y (m + 1)
  | 0 => rfl
  | m + 1 => by
    rw [srtG, insG_cnt, srtG_cnt f y m, srtG_hi f m (m + 1) (by omega), cGE.eq_2 f y (m + 1)]
theorem srtG_desc (f : Nat → Int32) : ∀ m, ∀ j, j < m → srtG f m (j + 1) ≤ srtG f m j
  | 0, j, h => by omega
  | m + 1, j, h => by
    have ih := srtG_desc f m
    obtain ⟨p, h1, h2, h3, h4⟩ := insG_at (m + 1) (srtG f m) (srtG f m (m + 1))
    rw [srtG, h4, h4]
    generalize srtG f m (m + 1) = x at h2 h3 ⊢
    by_cases q1 : j + 1 < p
    · rw [if_pos q1, if_pos (by omega)]
      exact ih j (by omega)
    · rw [if_neg q1]
      by_cases q2 : j + 1 = p
      · rw [if_pos q2, if_pos (by omega)]
        rcases h2 with h2 | h2
        · omega
        · rw [← q2] at h2
          exact h2
      · rw [if_neg q2, if_pos (by omega), if_neg (by omega), Nat.add_sub_cancel]
        by_cases q3 : j = p
        · rw [if_pos q3]
          have := i_nle.mp (h3 j (by omega) (by omega))
          rw [i_lt] at this
          rw [i_le]
          omega
        · rw [if_neg q3, if_pos (by omega)]
          have := ih (j - 1) (by omega)
          rw [show j - 1 + 1 = j from by omega] at this
          exact this
theorem srtG_mono (f : Nat → Int32) (m : Nat) : ∀ (d j : Nat), j + d ≤ m → srtG f m (j + d) ≤ srtG f m j
  | 0, j, _ => by
    show srtG f m j ≤ srtG f m j
    rw [i_le]
    omega
  | d + 1, j, h => i_letr (srtG_desc f m (j + d) (by omega)) (srtG_mono f m d j (by omega))
theorem rnk_self (f : Nat → Int32) (i : Nat) : ∀ n, n ≤ i → rnk f i n = cGE f (f i) n
  | 0, _ => rfl
  | n + 1, h => by
    rw [rnk, cGE, rnk_self f i n (by omega)]
    congr 1
    by_cases q : f i ≤ f n
    · rw [if_pos q, if_pos]
      by_cases q2 : f i < f n
      · exact Or.inl q2
      · refine Or.inr ⟨?_, by omega⟩
        rw [i_lt] at q2
        rw [i_le] at q
        rw [i_eq]
        omega
    · rw [if_neg q, if_neg]
      rintro (a | ⟨a, -⟩)
      · rw [i_lt] at a
        rw [i_le] at q
        omega
      · exact q (by rw [a, i_le]; omega)
theorem rnk_next (f : Nat → Int32) {i n : Nat} (h : i < n) : rnk f i (n + 1) = rnk f i n + if f i < f n then 1 else 0 := by
  rw [rnk]
  congr 1
  by_cases q : f i < f n
  · rw [if_pos q, if_pos (Or.inl q)]
  · rw [if_neg q, if_neg]
    rintro (a | ⟨-, a⟩)
    · exact q a
    · omega
/-- every place of the sorted row: whose rank it is, and what lies there -/
theorem srtG_rnk (f : Nat → Int32) : ∀ m, ∀ j, j ≤ m → ∃ i, i ≤ m ∧ rnk f i (m + 1) = j ∧ srtG f m j = f i
  | 0, j, h => by
    refine ⟨0, by omega, ?_, ?_⟩
    · have : j = 0 := by omega
      subst this
      have : rnk f 0 (0 + 1) < 1 := rnk_lt f 0 1 (by omega)
      omega
    · have : j = 0 := by omega
      rw [this, srtG]
  | m + 1, j, h => by
    have ih := srtG_rnk f m
    have hc := srtG_cnt f (f (m + 1)) m
    have hm := srtG_mono f m
    obtain ⟨p, h1, h2, h3, h4⟩ := insG_at (m + 1) (srtG f m) (srtG f m (m + 1))
    rw [srtG_hi f m (m + 1) (by omega)] at h2 h3 h4
    have lo : ∀ k, k < p → f (m + 1) ≤ srtG f m k := by
      intro k hk
      rcases h2 with h2 | h2
      · omega
      · have := hm (p - 1 - k) k (by omega)
        rw [show k + (p - 1 - k) = p - 1 from by omega] at this
        exact i_letr h2 this
    have hp : rnk f (m + 1) (m + 2) = p := by
      have e : rnk f (m + 1) (m + 2) = rnk f (m + 1) (m + 1) := by
        rw [rnk.eq_2]
        rw [if_neg]
        · omega
        · rintro (a | ⟨-, a⟩)
          · rw [i_lt] at a
            omega
          · omega
      rw [e, rnk_self f (m + 1) (m + 1) (by omega), ← hc]
      exact cGE_cut lo (m + 1) h1 h3
    have es : srtG f (m + 1) j = if j < p then srtG f m j else if j = p then f (m + 1) else if j ≤ m + 1 then srtG f m (j - 1) else srtG f m j := by
      rw [srtG, srtG_hi f m (m + 1) (by omega)]
      exact h4 j
    by_cases q1 : j < p
    · obtain ⟨i, a, b, c⟩ := ih j (by omega)
      refine ⟨i, by omega, ?_, by rw [es, if_pos q1, c]⟩
      rw [rnk_next f (by omega), b, if_neg, Nat.add_zero]
      have := lo j q1
      rw [c] at this
      exact i_nlt.mpr this
    · by_cases q2 : j = p
      · exact ⟨m + 1, by omega, by rw [hp, q2], by rw [es, if_neg q1, if_pos q2]⟩
      · obtain ⟨i, a, b, c⟩ := ih (j - 1) (by omega)
        refine ⟨i, by omega, ?_, by rw [es, if_neg q1, if_neg q2, if_pos h, c]⟩
        have := h3 (j - 1) (by omega) (by omega)
        rw [c] at this
        rw [rnk_next f (by omega), b, if_pos (i_nle.mp this)]
        omega
theorem rnk_mono (f : Nat → Int32) {i k : Nat} (h : f i < f k) : ∀ n, rnk f k n + (if k < n then 1 else 0) ≤ rnk f i n
  | 0 => by
    rw [if_neg (by omega)]
    exact Nat.le_refl _
  | n + 1 => by
    have ih := rnk_mono f h n
    rw [rnk, rnk]
    by_cases q : f k < f n ∨ (f n = f k ∧ n < k)
    · have t : f i < f n := by
        rcases q with a | ⟨a, -⟩
        · rw [i_lt] at *
          omega
        · rw [a]
          exact h
      rw [if_pos q, if_pos (Or.inl t)]
      by_cases z : k < n
      · rw [if_pos z] at ih
        rw [if_pos (by omega)]
        omega
      · rw [if_neg z] at ih
        by_cases z2 : k < n + 1
        · have : k = n := by omega
          subst this
          rcases q with a | ⟨-, a⟩
          · rw [i_lt] at a
            omega
          · omega
        · rw [if_neg z2]
          omega
    · rw [if_neg q]
      by_cases z : k = n
      · subst z
        rw [if_neg (by omega)] at ih
        rw [if_pos (by omega), if_pos (Or.inl h)]
        omega
      · by_cases z2 : k < n
        · rw [if_pos z2] at ih
          rw [if_pos (by omega)]
          omega
        · rw [if_neg z2] at ih
          rw [if_neg (by omega)]
          omega
theorem rkS_at (f : Nat → Int32) (n : Nat) (so : Nat → Int32) : ∀ (m i : Nat), m ≤ n → i < m → rkS f n so m (rnk f i n) = f i
  | 0, i, _, h => by omega
  | m + 1, i, hm, h => by
    rw [rkS, upd]
    by_cases q : rnk f i n = rnk f m n
    · rw [if_pos q]
      by_cases a : f i < f m
      · have := rnk_mono f a n
        rw [if_pos (by omega)] at this
        omega
      · by_cases b : f m < f i
        · have := rnk_mono f b n
          rw [if_pos (by omega)] at this
          omega
        · rw [i_lt] at a b
          rw [i_eq]
          omega
    · rw [if_neg q]
      by_cases z : i = m
      · rw [z] at q
        exact absurd rfl q
      · exact rkS_at f n so m i (by omega) (by omega)
theorem srt_rk {f so : Nat → Int32} {n : Nat} (hn : 1 ≤ n) : ∀ j, j < n → srtG f (n - 1) j = rkF f n so j := by
  intro j hj
  obtain ⟨i, a, b, c⟩ := srtG_rnk f (n - 1) j (by omega)
  rw [show n - 1 + 1 = n from by omega] at b
  rw [c, rkF, if_pos hj, ← b, rkS_at f n so n i (Nat.le_refl _) (by omega)]
