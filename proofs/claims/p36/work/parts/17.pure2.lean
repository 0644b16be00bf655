/-! pure rows of our own, out of the proof of whole -/
theorem and1 (y : Int32) : y &&& 1 = 0 ∨ y &&& 1 = 1 := by
  obtain ⟨j, hj, h⟩ := pk_andE y (m := 1) 1 (by decide)
  rw [h]
  rcases (show j = 0 ∨ j = 1 from by omega) with rfl | rfl
  · exact Or.inl rfl
  · exact Or.inr rfl
def bt (x : Int32) (i : Nat) : Bool := x.toBitVec.getLsbD i
theorem b_ext {x y : Int32} (h : ∀ i, i < 32 → bt x i = bt y i) : x = y := Int32.toBitVec_inj.mp (BitVec.eq_of_getLsbD_eq (fun i hi => h i hi))
theorem b_or (x y : Int32) (i : Nat) : bt (x ||| y) i = (bt x i || bt y i) := by unfold bt; rw [Int32.toBitVec_or, BitVec.getLsbD_or]
theorem b_and (x y : Int32) (i : Nat) : bt (x &&& y) i = (bt x i && bt y i) := by unfold bt; rw [Int32.toBitVec_and, BitVec.getLsbD_and]
theorem b_big {x : Int32} {i : Nat} (h : 32 ≤ i) : bt x i = false := BitVec.getLsbD_of_ge _ _ h
theorem b_0 (i : Nat) : bt 0 i = false := BitVec.getLsbD_zero
theorem s_l : ∀ n, n < 32 → ((nI n &&& 31).toBitVec.smod 32).toNat = n := by decide +kernel
theorem b_shl (n : Nat) (hn : n < 32) (x : Int32) {i : Nat} (hi : i < 32) : bt (x <<< (nI n &&& 31)) i = (decide (n ≤ i) && bt x (i - n)) := by
  unfold bt
  rw [Int32.toBitVec_shiftLeft]
  show (x.toBitVec <<< ((nI n &&& 31).toBitVec.smod 32).toNat).getLsbD i = _
  rw [s_l n hn, BitVec.getLsbD_shiftLeft]
  rcases Nat.lt_or_ge i n with h | h
  · simp [h, Nat.not_le.mpr h]
  · simp [hi, h, Nat.not_lt.mpr h]
theorem b_sshr (n : Nat) (hn : n < 32) (x : Int32) {i : Nat} (hi : i < 32) : bt (x >>> (nI n &&& 31)) i = if n + i < 32 then bt x (n + i) else bt x 31 := by
  unfold bt
  rw [Int32.toBitVec_shiftRight]
  show (x.toBitVec.sshiftRight ((nI n &&& 31).toBitVec.smod 32).toNat).getLsbD i = _
  rw [s_l n hn, BitVec.getLsbD_sshiftRight, BitVec.msb_eq_getLsbD_last]
  simp [hi]
theorem bt_1 (i : Nat) : bt 1 i = decide (i = 0) := by
  rcases Nat.lt_or_ge i 32 with h | h
  · exact (by decide +kernel : ∀ i, i < 32 → bt 1 i = decide (i = 0)) i h
  · rw [b_big h, decide_eq_false (by omega)]
theorem bt_read (x : Int32) {j : Nat} (hj : j < 12) : (x >>> (nI j &&& 31)) &&& 1 = if bt x j = true then 1 else 0 := by
  apply b_ext
  intro i hi
  rw [b_and, b_sshr j (by omega) x hi, bt_1]
  by_cases h0 : i = 0
  · subst h0
    rw [if_pos (by omega), Nat.add_zero]
    cases h : bt x j
    · rw [if_neg (by decide), b_0]
      rfl
    · rw [if_pos rfl, bt_1]
      rfl
  · rw [decide_eq_false h0, Bool.and_false]
    split
    · rw [bt_1, decide_eq_false h0]
    · rw [b_0]
theorem bt_set (x : Int32) {j k : Nat} (hj : j < 12) (hk : k < 12) : bt (x ||| ((1 : Int32) <<< (nI k &&& 31))) j = if j = k then true else bt x j := by
  rw [b_or, b_shl k (by omega) 1 (by omega), bt_1]
  by_cases h : j = k
  · subst h
    simp
  · rw [if_neg h]
    by_cases q : k ≤ j
    · rw [decide_eq_false (show ¬ j - k = 0 from by omega), Bool.and_false, Bool.or_false]
    · rw [decide_eq_false q, Bool.false_and, Bool.or_false]
theorem wN_ge {x : Int32} {n : Nat} (h : (n : Int) ≤ x.toInt) : n ≤ wN x := by
  unfold wN
  omega
def sumB (f : Nat → Int32) : Nat → Nat → Bool
  | 0, v => v == 0
  | k + 1, v => sumB f k v || (decide (wN (f k) ≤ v) && sumB f k (v - wN (f k)))
def cntB (p : Nat → Bool) : Nat → Nat
  | 0 => 0
  | n + 1 => cntB p n + if p n = true then 1 else 0
def lmS (p : Nat → Bool) : Nat → Nat → Nat
  | 0, k => k
  | m + 1, k => if p k = true then lmS p m (k + 1) else k
theorem sumB_s {f : Nat → Int32} {k v : Nat} : sumB f (k + 1) v = true ↔ sumB f k v = true ∨ (wN (f k) ≤ v ∧ sumB f k (v - wN (f k)) = true) := by
  rw [sumB]
  simp only [Bool.or_eq_true, Bool.and_eq_true, decide_eq_true_eq]
theorem i_sub {x y : Int32} (h1 : -2147483648 ≤ x.toInt - y.toInt) (h2 : x.toInt - y.toInt < 2147483648) : (x - y).toInt = x.toInt - y.toInt := by
  rw [Int32.toInt_sub]
  exact Int.bmod_eq_of_le (by omega) (by omega)
theorem i_add {x y : Int32} (h1 : -2147483648 ≤ x.toInt + y.toInt) (h2 : x.toInt + y.toInt < 2147483648) : (x + y).toInt = x.toInt + y.toInt := by
  rw [Int32.toInt_add]
  exact Int.bmod_eq_of_le (by omega) (by omega)
theorem i_mul {x y : Int32} (h1 : -2147483648 ≤ x.toInt * y.toInt) (h2 : x.toInt * y.toInt < 2147483648) : (x * y).toInt = x.toInt * y.toInt := by
  rw [Int32.toInt_mul]
  exact Int.bmod_eq_of_le (by omega) (by omega)
theorem tdv (a : Int) : (0 ≤ a → 16 * (a.tdiv 16) ≤ a ∧ a < 16 * (a.tdiv 16) + 16) ∧ (a ≤ 0 → a ≤ 16 * (a.tdiv 16) ∧ 16 * (a.tdiv 16) - 16 < a) := by
  have p (b : Int) (h : 0 ≤ b) : 16 * (b.tdiv 16) ≤ b ∧ b < 16 * (b.tdiv 16) + 16 := by
    rw [Int.tdiv_eq_ediv_of_nonneg h]
    omega
  refine ⟨p a, fun h => ?_⟩
  have h2 := p (-a) (by omega)
  rw [Int.neg_tdiv] at h2
  omega
theorem i_div16 {x : Int32} : (x / 16).toInt = x.toInt.tdiv 16 := by
  rw [Int32.toInt_div]
  have h1 := x.toInt_lt
  have h2 := x.le_toInt
  have h3 := tdv x.toInt
  show (x.toInt.tdiv 16).bmod (2 ^ 32) = _
  generalize x.toInt.tdiv 16 = q at *
  exact Int.bmod_eq_of_le (by omega) (by omega)
theorem rnk_k (f : Nat → Int32) (i : Nat) : ∀ n, n ≤ i → rnk f i n ≤ n
  | n, _ => rnk_le f i n
theorem rnk_lt (f : Nat → Int32) (i : Nat) : ∀ n, i < n → rnk f i n < n
  | 0, h => absurd h (Nat.not_lt_zero _)
  | n + 1, h => by
    by_cases e : i = n
    · have h1 := rnk_le f i n
      rw [rnk, if_neg (by rw [e, i_lt]; omega)]
      omega
    · have h1 := rnk_lt f i n (by omega)
      rw [rnk]
      split <;> omega
def zW (z : StV) : Prop := (0 ≤ z.1.toInt ∧ z.1.toInt ≤ 65535) ∧ (1 ≤ z.2.1.toInt ∧ z.2.1.toInt ≤ 16) ∧ (0 ≤ z.2.2.1.toInt ∧ z.2.2.1.toInt ≤ 64) ∧ (1 ≤ z.2.2.2.2.2.1 ∧ z.2.2.2.2.2.1 ≤ 12) ∧ z.2.2.2.2.2.2.1 ≤ 8 ∧ ∀ k, k < z.2.2.2.2.2.1 → 1 ≤ (z.2.2.2.2.2.2.2.1 k).toInt ∧ (z.2.2.2.2.2.2.2.1 k).toInt ≤ 2048
theorem tdvN (a : Int) (h : 0 ≤ a) : 0 ≤ a.tdiv 4096 ∧ 4096 * a.tdiv 4096 ≤ a := by
  rw [Int.tdiv_eq_ediv_of_nonneg h]
  omega
theorem i_div4096 {x : Int32} : (x / 4096).toInt = x.toInt.tdiv 4096 := by
  have h1 := x.toInt_lt
  have h2 : -2147483648 ≤ x.toInt := by have := x.le_toInt; omega
  rw [Int32.toInt_div]
  show (x.toInt.tdiv 4096).bmod (2 ^ 32) = _
  apply Int.bmod_eq_of_le
  · have := Int.tdiv_le_tdiv (c := 4096) (by omega) h2
    have e : (-2147483648 : Int).tdiv 4096 = -524288 := by decide
    omega
  · have := Int.tdiv_le_tdiv (c := 4096) (by omega) (show x.toInt ≤ 2147483647 by omega)
    have e : (2147483647 : Int).tdiv 4096 = 524287 := by decide
    omega
theorem hTick_rng {v leak : Int32} (h : 0 ≤ v.toInt ∧ v.toInt ≤ 65535) (hl : 0 ≤ leak.toInt ∧ leak.toInt ≤ 64) : 0 ≤ (hTick v leak).toInt ∧ (hTick v leak).toInt ≤ 65535 := by
  have m1 : 0 ≤ v.toInt * leak.toInt := Int.mul_nonneg h.1 hl.1
  have m2 : v.toInt * leak.toInt ≤ v.toInt * 64 := Int.mul_le_mul_of_nonneg_left hl.2 h.1
  have e1 : (v * leak).toInt = v.toInt * leak.toInt := i_mul (by omega) (by omega)
  have e2 : (v * leak / 4096).toInt = (v.toInt * leak.toInt).tdiv 4096 := by rw [i_div4096, e1]
  have t := tdvN _ m1
  have e3 : (v - v * leak / 4096).toInt = v.toInt - (v.toInt * leak.toInt).tdiv 4096 := by
    rw [i_sub (by rw [e2]; omega) (by rw [e2]; omega), e2]
  rw [hTick, e3]
  omega
theorem hItr_rng {leak : Int32} (hl : 0 ≤ leak.toInt ∧ leak.toInt ≤ 64) : ∀ (k : Nat) {v : Int32}, 0 ≤ v.toInt ∧ v.toInt ≤ 65535 → 0 ≤ (hItr leak k v).toInt ∧ (hItr leak k v).toInt ≤ 65535
  | 0, _, h => h
  | k + 1, _, h => hTick_rng (hItr_rng hl k h) hl
theorem sTick_rng {v inp rate : Int32} (h : 0 ≤ v.toInt ∧ v.toInt ≤ 65535) (hi : 0 ≤ inp.toInt ∧ inp.toInt ≤ 65535) (hr : 1 ≤ rate.toInt ∧ rate.toInt ≤ 16) : 0 ≤ (sTick v inp rate).toInt ∧ (sTick v inp rate).toInt ≤ 65535 := by
  have e1 : (inp - v).toInt = inp.toInt - v.toInt := i_sub (by omega) (by omega)
  have b : -1048560 ≤ (inp.toInt - v.toInt) * rate.toInt ∧ (inp.toInt - v.toInt) * rate.toInt ≤ 1048560 ∧ (0 ≤ inp.toInt - v.toInt → 0 ≤ (inp.toInt - v.toInt) * rate.toInt ∧ (inp.toInt - v.toInt) * rate.toInt ≤ (inp.toInt - v.toInt) * 16) ∧ (inp.toInt - v.toInt ≤ 0 → (inp.toInt - v.toInt) * rate.toInt ≤ 0 ∧ (inp.toInt - v.toInt) * 16 ≤ (inp.toInt - v.toInt) * rate.toInt) := by
    by_cases hd : 0 ≤ inp.toInt - v.toInt
    · have m1 : 0 ≤ (inp.toInt - v.toInt) * rate.toInt := Int.mul_nonneg hd (by omega)
      have m2 : (inp.toInt - v.toInt) * rate.toInt ≤ (inp.toInt - v.toInt) * 16 := Int.mul_le_mul_of_nonneg_left hr.2 hd
      refine ⟨by omega, by omega, fun _ => ⟨m1, m2⟩, fun q => ?_⟩
      have z : inp.toInt - v.toInt = 0 := by omega
      rw [z]
      omega
    · have m1 : (inp.toInt - v.toInt) * rate.toInt ≤ 0 := Int.mul_nonpos_of_nonpos_of_nonneg (by omega) (by omega)
      have m2 : (inp.toInt - v.toInt) * 16 ≤ (inp.toInt - v.toInt) * rate.toInt := Int.mul_le_mul_of_nonpos_left (by omega) hr.2
      exact ⟨by omega, by omega, fun q => absurd q hd, fun _ => ⟨m1, m2⟩⟩
  have e2 : ((inp - v) * rate).toInt = (inp.toInt - v.toInt) * rate.toInt := by
    rw [i_mul (by rw [e1]; omega) (by rw [e1]; omega), e1]
  have e3 : ((inp - v) * rate / 16).toInt = ((inp.toInt - v.toInt) * rate.toInt).tdiv 16 := by rw [i_div16, e2]
  have t := tdv ((inp.toInt - v.toInt) * rate.toInt)
  rw [sTick]
  generalize (inp - v) * rate / 16 = q at e3 ⊢
  generalize (inp.toInt - v.toInt) * rate.toInt = P at b e3 t
  have c1 : (1 : Int32).toInt = 1 := by decide
  have c2 : (-1 : Int32).toInt = -1 := by decide
  by_cases hq : q = 0
  · rw [if_pos hq]
    by_cases h1 : v < inp
    · rw [if_pos h1]
      rw [i_lt] at h1
      rw [i_add (by rw [c1]; omega) (by rw [c1]; omega), c1]
      omega
    · rw [if_neg h1]
      by_cases h2 : inp < v
      · rw [if_pos h2]
        rw [i_lt] at h2
        rw [i_add (by rw [c2]; omega) (by rw [c2]; omega), c2]
        omega
      · rw [if_neg h2]
        exact h
  · rw [if_neg hq]
    rw [i_add (by omega) (by omega)]
    omega
theorem sItr_rng {inp rate : Int32} (hi : 0 ≤ inp.toInt ∧ inp.toInt ≤ 65535) (hr : 1 ≤ rate.toInt ∧ rate.toInt ≤ 16) : ∀ (k : Nat) {v : Int32}, 0 ≤ v.toInt ∧ v.toInt ≤ 65535 → 0 ≤ (sItr inp rate k v).toInt ∧ (sItr inp rate k v).toInt ≤ 65535
  | 0, _, h => h
  | k + 1, _, h => sTick_rng (sItr_rng hi hr k h) hi hr
theorem wgS_left (f : Nat → Int32) (leak off gl v0 : Int32) : ∀ n, (wgS f leak off gl v0 n).1 = hItr leak n v0
  | 0 => rfl
  | n + 1 => by
    rw [wgS, hItr, ← wgS_left f leak off gl v0 n, wgT]
    (repeat' split) <;> rfl
theorem sumW_cg {f g : Nat → Int32} : ∀ n, (∀ k, k < n → f k = g k) → sumW f n = sumW g n
  | 0, _ => rfl
  | n + 1, h => by rw [sumW, sumW, sumW_cg n (fun k hk => h k (by omega)), h n (by omega)]
theorem rnk_cg {f g : Nat → Int32} {i : Nat} (hi : f i = g i) : ∀ n, (∀ k, k < n → f k = g k) → rnk f i n = rnk g i n
  | 0, _ => rfl
  | n + 1, h => by rw [rnk, rnk, rnk_cg hi n (fun k hk => h k (by omega)), h n (by omega), hi]
theorem misp_cg {f g : Nat → Int32} {n : Nat} (h : ∀ k, k < n → f k = g k) : ∀ m, m ≤ n → misp f n m = misp g n m
  | 0, _ => rfl
  | m + 1, hm => by rw [misp, misp, misp_cg h m (by omega), rnk_cg (h m (by omega)) n h]
theorem wgS_cg {f g : Nat → Int32} {leak off gl v0 : Int32} : ∀ n, (∀ k, k < n → f k = g k) → wgS f leak off gl v0 n = wgS g leak off gl v0 n
  | 0, _ => rfl
  | n + 1, h => by rw [wgS, wgS, wgS_cg n (fun k hk => h k (by omega)), h n (by omega)]
theorem fillG_cg {f g : Nat → Int32} : ∀ n, (∀ k, k < n → f k = g k) → fillG f n = fillG g n
  | 0, _ => rfl
  | n + 1, h => by rw [fillG, fillG, fillG_cg n (fun k hk => h k (by omega)), h n (by omega)]
theorem sumB_cg {f g : Nat → Int32} : ∀ n, (∀ k, k < n → f k = g k) → sumB f n = sumB g n
  | 0, _ => rfl
  | n + 1, h => by
    funext v
    have e := sumB_cg n (fun k hk => h k (by omega))
    rw [sumB, sumB, e, h n (by omega)]
def cGE (h : Nat → Int32) (y : Int32) : Nat → Nat
  | 0 => 0
  | k + 1 => cGE h y k + if y ≤ h k then 1 else 0
theorem cGE_cg {h g : Nat → Int32} {y : Int32} : ∀ n, (∀ k, k < n → h k = g k) → cGE h y n = cGE g y n
  | 0, _ => rfl
  | n + 1, e => by rw [cGE, cGE, cGE_cg n (fun k hk => e k (by omega)), e n (by omega)]
theorem cGE_all {h : Nat → Int32} {y : Int32} : ∀ n, (∀ k, k < n → y ≤ h k) → cGE h y n = n
  | 0, _ => rfl
  | n + 1, e => by rw [cGE, cGE_all n (fun k hk => e k (by omega)), if_pos (e n (by omega))]
theorem cGE_cut {h : Nat → Int32} {y : Int32} {p : Nat} (h1 : ∀ k, k < p → y ≤ h k) : ∀ n, p ≤ n → (∀ k, p ≤ k → k < n → ¬ y ≤ h k) → cGE h y n = p
  | 0, hp, _ => by
    have : p = 0 := by omega
    rw [this, cGE]
  | n + 1, hp, e => by
    by_cases q : p = n + 1
    · rw [q]
      exact cGE_all (n + 1) (fun k hk => h1 k (by omega))
    · rw [cGE, cGE_cut h1 n (by omega) (fun k a b => e k a (by omega)), if_neg (e n (by omega) (by omega)), Nat.add_zero]
theorem i_nle {x y : Int32} : ¬ x ≤ y ↔ y < x := by rw [i_le, i_lt]; omega
theorem i_nlt {x y : Int32} : ¬ x < y ↔ y ≤ x := by rw [i_le, i_lt]; omega
theorem i_letr {x y z : Int32} (h1 : x ≤ y) (h2 : y ≤ z) : x ≤ z := by rw [i_le] at *; omega
theorem insG_at : ∀ (J : Nat) (g : Nat → Int32) (x : Int32), ∃ p, p ≤ J ∧ (p = 0 ∨ x ≤ g (p - 1)) ∧ (∀ k, p ≤ k → k < J → ¬ x ≤ g k) ∧ ∀ j, insG g x J j = if j < p then g j else if j = p then x else if j ≤ J then g (j - 1) else g j
  | 0, g, x => ⟨0, by omega, Or.inl rfl, fun k _ h => by omega, fun j => by
      rw [insG, upd]
      by_cases h : j = 0
      · rw [if_pos h, if_neg (by omega), if_pos h]
      · rw [if_neg h, if_neg (by omega), if_neg h, if_neg (by omega)]⟩
  | J + 1, g, x => by
    by_cases h : g J < x
    · obtain ⟨p, h1, h2, h3, h4⟩ := insG_at J (upd g (J + 1) (g J)) x
      have u : ∀ k, k ≤ J → upd g (J + 1) (g J) k = g k := fun k hk => by rw [upd, if_neg (by omega)]
      refine ⟨p, by omega, ?_, ?_, ?_⟩
      · rcases h2 with h2 | h2
        · exact Or.inl h2
        · by_cases q : p = 0
          · exact Or.inl q
          · rw [u _ (by omega)] at h2
            exact Or.inr h2
      · intro k a b
        by_cases q : k = J
        · rw [q]
          exact i_nle.mpr h
        · have := h3 k a (by omega)
          rw [u _ (by omega)] at this
          exact this
      · intro j
        rw [insG, if_pos h, h4]
        by_cases q1 : j < p
        · rw [if_pos q1, if_pos q1, u _ (by omega)]
        · rw [if_neg q1, if_neg q1]
          by_cases q2 : j = p
          · rw [if_pos q2, if_pos q2]
          · rw [if_neg q2, if_neg q2]
            by_cases q3 : j ≤ J
            · rw [if_pos q3, if_pos (by omega), u _ (by omega)]
            · rw [if_neg q3, upd]
              by_cases q4 : j = J + 1
              · rw [if_pos q4, if_pos (by omega), q4]
                rfl
              · rw [if_neg q4, if_neg (by omega)]
    · refine ⟨J + 1, by omega, Or.inr (i_nlt.mp h), fun k a b => by omega, fun j => ?_⟩
      rw [insG, if_neg h, upd]
      by_cases q : j = J + 1
      · rw [if_pos q, if_neg (by omega), if_pos q]
      · rw [if_neg q, if_neg q]
        by_cases q1 : j < J + 1
        · rw [if_pos q1]
        · rw [if_neg q1, if_neg (by omega)]
theorem insG_cnt (y : Int32) : ∀ (J : Nat) (g : Nat → Int32) (x : Int32), cGE (insG g x J) y (J + 1) = cGE g y J + if y ≤ x then 1 else 0
  | 0, g, x => by
    have e : insG g x 0 0 = x := by rw [insG, upd, if_pos rfl]
    show 0 + (if y ≤ insG g x 0 0 then 1 else 0) = 0 + _
    rw [e]
  | J + 1, g, x => by
    by_cases h : g J < x
    · have e : insG g x (J + 1) = insG (upd g (J + 1) (g J)) x J := by rw [insG, if_pos h]
      obtain ⟨p, h1, -, -, h4⟩ := insG_at J (upd g (J + 1) (g J)) x
      have e2 : insG (upd g (J + 1) (g J)) x J (J + 1) = g J := by rw [h4, if_neg (by omega), if_neg (by omega), if_neg (by omega), upd, if_pos rfl]
      rw [e, cGE, insG_cnt y J, e2, cGE_cg (g := g) J (fun k hk => by rw [upd, if_neg (by omega)]), cGE.eq_2 g y J]
      omega
    · rw [insG, if_neg h, cGE, upd, if_pos rfl, cGE_cg (g := g) (J + 1) (fun k hk => by rw [upd, if_neg (by omega)])]
theorem srtG_hi (f : Nat → Int32) : ∀ (m j : Nat), m < j → srtG f m j = f j
  | 0, _, _ => rfl
  | m + 1, j, h => by
    obtain ⟨p, h1, -, -, h4⟩ := insG_at (m + 1) (srtG f m) (srtG f m (m + 1))
    rw [srtG, h4, if_neg (by omega), if_neg (by omega), if_neg (by omega)]
    exact srtG_hi f m j (by omega)
theorem srtG_cnt (f : Nat → Int32) (y : Int32) : ∀ m, cGE (srtG f m) y (m + 1) = cGE f y (m + 1)
  | 0 => rfl
  | m + 1 => by
    rw [srtG, insG_cnt, srtG_cnt f y m, srtG_hi f m (m + 1) (by omega), cGE.eq_2 f y (m + 1)]
theorem srtG_desc (f : Nat → Int32) : ∀ m, ∀ j, j < m → srtG f m (j + 1) ≤ srtG f m j
  | 0, j, h => by omega
  | m + 1, j, h => by
    have ih := srtG_desc f m
    obtain ⟨p, h1, h2, h3, h4⟩ := insG_at (m + 1) (srtG f m) (srtG f m (m + 1))
    rw [srtG, h4, h4]
    generalize srtG f m (m + 1) = x at h2 h3 ⊢
    by_cases q1 : j + 1 < p
    · rw [if_pos q1, if_pos (by omega)]
      exact ih j (by omega)
    · rw [if_neg q1]
      by_cases q2 : j + 1 = p
      · rw [if_pos q2, if_pos (by omega)]
        rcases h2 with h2 | h2
        · omega
        · rw [← q2] at h2
          exact h2
      · rw [if_neg q2, if_pos (by omega), if_neg (by omega), Nat.add_sub_cancel]
        by_cases q3 : j = p
        · rw [if_pos q3]
          have := i_nle.mp (h3 j (by omega) (by omega))
          rw [i_lt] at this
          rw [i_le]
          omega
        · rw [if_neg q3, if_pos (by omega)]
          have := ih (j - 1) (by omega)
          rw [show j - 1 + 1 = j from by omega] at this
          exact this
theorem srtG_mono (f : Nat → Int32) (m : Nat) : ∀ (d j : Nat), j + d ≤ m → srtG f m (j + d) ≤ srtG f m j
  | 0, j, _ => by
    show srtG f m j ≤ srtG f m j
    rw [i_le]
    omega
  | d + 1, j, h => i_letr (srtG_desc f m (j + d) (by omega)) (srtG_mono f m d j (by omega))
theorem rnk_self (f : Nat → Int32) (i : Nat) : ∀ n, n ≤ i → rnk f i n = cGE f (f i) n
  | 0, _ => rfl
  | n + 1, h => by
    rw [rnk, cGE, rnk_self f i n (by omega)]
    congr 1
    by_cases q : f i ≤ f n
    · rw [if_pos q, if_pos]
      by_cases q2 : f i < f n
      · exact Or.inl q2
      · refine Or.inr ⟨?_, by omega⟩
        rw [i_lt] at q2
        rw [i_le] at q
        rw [i_eq]
        omega
    · rw [if_neg q, if_neg]
      rintro (a | ⟨a, -⟩)
      · rw [i_lt] at a
        rw [i_le] at q
        omega
      · exact q (by rw [a, i_le]; omega)
theorem rnk_next (f : Nat → Int32) {i n : Nat} (h : i < n) : rnk f i (n + 1) = rnk f i n + if f i < f n then 1 else 0 := by
  rw [rnk]
  congr 1
  by_cases q : f i < f n
  · rw [if_pos q, if_pos (Or.inl q)]
  · rw [if_neg q, if_neg]
    rintro (a | ⟨-, a⟩)
    · exact q a
    · omega
theorem srtG_rnk (f : Nat → Int32) : ∀ m, ∀ j, j ≤ m → ∃ i, i ≤ m ∧ rnk f i (m + 1) = j ∧ srtG f m j = f i
  | 0, j, h => by
    refine ⟨0, by omega, ?_, ?_⟩
    · have : j = 0 := by omega
      subst this
      have : rnk f 0 (0 + 1) < 1 := rnk_lt f 0 1 (by omega)
      omega
    · have : j = 0 := by omega
      rw [this, srtG]
  | m + 1, j, h => by
    have ih := srtG_rnk f m
    have hc := srtG_cnt f (f (m + 1)) m
    have hm := srtG_mono f m
    obtain ⟨p, h1, h2, h3, h4⟩ := insG_at (m + 1) (srtG f m) (srtG f m (m + 1))
    rw [srtG_hi f m (m + 1) (by omega)] at h2 h3 h4
    have lo : ∀ k, k < p → f (m + 1) ≤ srtG f m k := by
      intro k hk
      rcases h2 with h2 | h2
      · omega
      · have := hm (p - 1 - k) k (by omega)
        rw [show k + (p - 1 - k) = p - 1 from by omega] at this
        exact i_letr h2 this
    have hp : rnk f (m + 1) (m + 2) = p := by
      have e : rnk f (m + 1) (m + 2) = rnk f (m + 1) (m + 1) := by
        rw [rnk.eq_2]
        rw [if_neg]
        · omega
        · rintro (a | ⟨-, a⟩)
          · rw [i_lt] at a
            omega
          · omega
      rw [e, rnk_self f (m + 1) (m + 1) (by omega), ← hc]
      exact cGE_cut lo (m + 1) h1 h3
    have es : srtG f (m + 1) j = if j < p then srtG f m j else if j = p then f (m + 1) else if j ≤ m + 1 then srtG f m (j - 1) else srtG f m j := by
      rw [srtG, srtG_hi f m (m + 1) (by omega)]
      exact h4 j
    by_cases q1 : j < p
    · obtain ⟨i, a, b, c⟩ := ih j (by omega)
      refine ⟨i, by omega, ?_, by rw [es, if_pos q1, c]⟩
      rw [rnk_next f (by omega), b, if_neg, Nat.add_zero]
      have := lo j q1
      rw [c] at this
      exact i_nlt.mpr this
    · by_cases q2 : j = p
      · exact ⟨m + 1, by omega, by rw [hp, q2], by rw [es, if_neg q1, if_pos q2]⟩
      · obtain ⟨i, a, b, c⟩ := ih (j - 1) (by omega)
        refine ⟨i, by omega, ?_, by rw [es, if_neg q1, if_neg q2, if_pos h, c]⟩
        have := h3 (j - 1) (by omega) (by omega)
        rw [c] at this
        rw [rnk_next f (by omega), b, if_pos (i_nle.mp this)]
        omega
theorem rnk_mono (f : Nat → Int32) {i k : Nat} (h : f i < f k) : ∀ n, rnk f k n + (if k < n then 1 else 0) ≤ rnk f i n
  | 0 => by
    rw [if_neg (by omega)]
    exact Nat.le_refl _
  | n + 1 => by
    have ih := rnk_mono f h n
    rw [rnk, rnk]
    by_cases q : f k < f n ∨ (f n = f k ∧ n < k)
    · have t : f i < f n := by
        rcases q with a | ⟨a, -⟩
        · rw [i_lt] at *
          omega
        · rw [a]
          exact h
      rw [if_pos q, if_pos (Or.inl t)]
      by_cases z : k < n
      · rw [if_pos z] at ih
        rw [if_pos (by omega)]
        omega
      · rw [if_neg z] at ih
        by_cases z2 : k < n + 1
        · have : k = n := by omega
          subst this
          rcases q with a | ⟨-, a⟩
          · rw [i_lt] at a
            omega
          · omega
        · rw [if_neg z2]
          omega
    · rw [if_neg q]
      by_cases z : k = n
      · subst z
        rw [if_neg (by omega)] at ih
        rw [if_pos (by omega), if_pos (Or.inl h)]
        omega
      · by_cases z2 : k < n
        · rw [if_pos z2] at ih
          rw [if_pos (by omega)]
          omega
        · rw [if_neg z2] at ih
          rw [if_neg (by omega)]
          omega
def bl (x : Int64) (i : Nat) : Bool := x.toBitVec.getLsbD i
theorem s_l6 : ∀ n, n < 64 → (((nI n : Int32).toInt64 &&& 63).toBitVec.smod 64).toNat = n := by decide +kernel
theorem s_u6 : ∀ n, n < 65 → 1 ≤ n → ((((nI (64 - n) : Int32).toInt64.toUInt64 &&& Int64.toUInt64 63)).toBitVec % 64).toNat = (64 - n) := by decide +kernel
theorem bl_or (x y : Int64) (i : Nat) : bl (x ||| y) i = (bl x i || bl y i) := by unfold bl; rw [Int64.toBitVec_or, BitVec.getLsbD_or]
theorem bl_big {x : Int64} {i : Nat} (h : 64 ≤ i) : bl x i = false := BitVec.getLsbD_of_ge _ _ h
theorem bl_shl (n : Nat) (hn : n < 64) (x : Int64) {i : Nat} (hi : i < 64) : bl (x <<< ((nI n : Int32).toInt64 &&& 63)) i = (decide (n ≤ i) && bl x (i - n)) := by
  unfold bl
  rw [Int64.toBitVec_shiftLeft]
  show (x.toBitVec <<< (((nI n : Int32).toInt64 &&& 63).toBitVec.smod 64).toNat).getLsbD i = _
  rw [s_l6 n hn, BitVec.getLsbD_shiftLeft]
  rcases Nat.lt_or_ge i n with h | h
  · simp [h, Nat.not_le.mpr h]
  · simp [hi, h, Nat.not_lt.mpr h]
theorem bl_ushr (n : Nat) (h1 : 1 ≤ n) (hn : n < 64) (x : Int64) (i : Nat) : bl ((x.toUInt64 >>> ((nI (64 - n) : Int32).toInt64.toUInt64 &&& Int64.toUInt64 63)).toInt64) i = bl x (64 - n + i) := by
  show (x.toUInt64 >>> ((nI (64 - n) : Int32).toInt64.toUInt64 &&& Int64.toUInt64 63)).toBitVec.getLsbD i = x.toUInt64.toBitVec.getLsbD (64 - n + i)
  rw [UInt64.toBitVec_shiftRight]
  show (x.toUInt64.toBitVec >>> (((nI (64 - n) : Int32).toInt64.toUInt64 &&& Int64.toUInt64 63).toBitVec % 64).toNat).getLsbD i = _
  rw [s_u6 n (by omega) h1, BitVec.getLsbD_ushiftRight]
theorem bl_sshr0 (n : Nat) (hn : n < 64) (x : Int64) : bl (x >>> ((nI n : Int32).toInt64 &&& 63)) 0 = bl x n := by
  unfold bl
  rw [Int64.toBitVec_shiftRight]
  show (x.toBitVec.sshiftRight (((nI n : Int32).toInt64 &&& 63).toBitVec.smod 64).toNat).getLsbD 0 = _
  rw [s_l6 n hn, BitVec.getLsbD_sshiftRight]
  simp [hn]
def bW (wd : Nat → Int64) (v : Nat) : Bool := bl (wd (v / 64)) (v % 64)
theorem bW_add (wd : Nat → Int64) (n v : Nat) (hn : n < 4096) (hv : v < 4096) : bW (addG wd n) v = (bW wd v || (decide (n ≤ v) && bW wd (v - n))) := by
  unfold bW addG
  have hi : v % 64 < 64 := Nat.mod_lt _ (by omega)
  by_cases h : n / 64 ≤ v / 64
  · rw [if_pos h, bl_or, shV]
    congr 1
    by_cases h2 : 0 < n % 64 ∧ n / 64 < v / 64
    · have hd : decide (n ≤ v) = true := decide_eq_true (by omega)
      rw [if_pos h2, bl_or, bl_shl _ (by omega) _ hi, bl_ushr _ (by omega) (by omega), hd, Bool.true_and]
      by_cases h3 : n % 64 ≤ v % 64
      · rw [decide_eq_true h3, Bool.true_and, bl_big (x := wd (v / 64 - n / 64 - 1)) (by omega), Bool.or_false]
        rw [show (v - n) / 64 = v / 64 - n / 64 from by omega, show (v - n) % 64 = v % 64 - n % 64 from by omega]
      · rw [decide_eq_false h3, Bool.false_and, Bool.false_or]
        rw [show (v - n) / 64 = v / 64 - n / 64 - 1 from by omega, show (v - n) % 64 = 64 - n % 64 + v % 64 from by omega]
    · rw [if_neg h2, bl_shl _ (by omega) _ hi]
      by_cases h3 : n ≤ v
      · rw [decide_eq_true h3, decide_eq_true (show n % 64 ≤ v % 64 by omega), Bool.true_and, Bool.true_and]
        rw [show (v - n) / 64 = v / 64 - n / 64 from by omega, show (v - n) % 64 = v % 64 - n % 64 from by omega]
      · rw [decide_eq_false h3, decide_eq_false (show ¬ n % 64 ≤ v % 64 by omega), Bool.false_and, Bool.false_and]
  · rw [if_neg h, decide_eq_false (show ¬ n ≤ v by omega), Bool.false_and, Bool.or_false]
theorem bl_1 : ∀ i, i < 64 → bl 1 i = decide (i = 0) := by decide +kernel
theorem bl_0 (i : Nat) : bl 0 i = false := BitVec.getLsbD_zero
theorem fill_sumB (f : Nat → Int32) : ∀ n, (∀ k, k < n → wN (f k) ≤ 2048) → ∀ v, v < 4096 → bW (fillG f n) v = sumB f n v
  | 0, _, v, hv => by
    rw [fillG, bW, oneL, sumB]
    by_cases h : v / 64 = 0
    · rw [if_pos h, bl_1 _ (by omega)]
      by_cases h2 : v = 0
      · subst h2
        rfl
      · rw [decide_eq_false (by omega)]
        simp [h2]
    · rw [if_neg h, bl_0]
      have h2 : ¬ v = 0 := fun q => h (by rw [q])
      simp [h2]
  | n + 1, hw, v, hv => by
    have ih := fill_sumB f n (fun k hk => hw k (by omega))
    have h1 := hw n (by omega)
    rw [fillG, bW_add _ _ _ (by omega) hv, sumB, ih v hv, ih (v - wN (f n)) (by omega)]
theorem bitL_eq (wd : Nat → Int64) (k : Nat) : bitL wd k = if bW wd k = true then 1 else 0 := by
  unfold bitL bW
  have hi : k % 64 < 64 := Nat.mod_lt _ (by omega)
  have e := bl_sshr0 (k % 64) hi (wd (k / 64))
  generalize wd (k / 64) >>> ((nI (k % 64) : Int32).toInt64 &&& 63) = x at e ⊢
  rw [← e]
  apply Int64.toBitVec_inj.mp
  rw [Int64.toBitVec_and]
  apply BitVec.eq_of_getLsbD_eq
  intro i h
  rw [BitVec.getLsbD_and]
  by_cases hb : bl x 0 = true
  · rw [if_pos hb]
    by_cases z : i = 0
    · subst z
      have : x.toBitVec.getLsbD 0 = true := hb
      rw [this]
      rfl
    · have : (1 : Int64).toBitVec.getLsbD i = false := by
        have := bl_1 i (by omega)
        rw [decide_eq_false z] at this
        exact this
      rw [this, Bool.and_false]
  · rw [if_neg hb]
    by_cases z : i = 0
    · subst z
      have h2 : x.toBitVec.getLsbD 0 = false := by
        cases q : x.toBitVec.getLsbD 0
        · rfl
        · exact absurd q hb
      rw [h2]
      rfl
    · have h1 : (1 : Int64).toBitVec.getLsbD i = false := by
        have := bl_1 i (by omega)
        rw [decide_eq_false z] at this
        exact this
      have h0 : (0 : Int64).toBitVec.getLsbD i = false := BitVec.getLsbD_zero
      rw [h1, h0, Bool.and_false]
theorem lm_eq (wd : Nat → Int64) (p : Nat → Bool) (h : ∀ v, v < 4096 → bW wd v = p v) : ∀ (m k : Nat), k + m ≤ 4096 → lmGo wd m k = lmS p m k
  | 0, _, _ => rfl
  | m + 1, k, hk => by
    rw [lmGo, lmS, bitL_eq, h k (by omega)]
    cases p k with
    | true =>
      rw [if_pos rfl, if_neg (by decide), if_pos rfl]
      exact lm_eq wd p h m (k + 1) (by omega)
    | false =>
      rw [if_pos (show (if false = true then (1 : Int64) else 0) = 0 from rfl), if_neg (by decide)]
theorem least_eq {f : Nat → Int32} {n : Nat} (hw : ∀ k, k < n → wN (f k) ≤ 2048) : lmGo (fillG f n) 4095 1 = lmS (sumB f n) 4095 1 := lm_eq _ _ (fill_sumB f n hw) 4095 1 (by omega)
def cb (x : Nat) : Nat → Nat
  | 0 => 0
  | n + 1 => cb x n + if x.testBit n = true then 1 else 0
theorem cb_le (x : Nat) : ∀ n, cb x n ≤ n
  | 0 => Nat.le_refl 0
  | n + 1 => by
    have := cb_le x n
    rw [cb]
    split <;> omega
theorem tb_split (r : Nat) {b : Nat} (hb : b < 256) (j : Nat) : (b + 256 * r).testBit j = if j < 8 then b.testBit j else r.testBit (j - 8) := by
  have h := Nat.testBit_two_pow_mul_add r (b := b) (i := 8) hb j
  rw [show 2 ^ 8 * r + b = b + 256 * r from by omega] at h
  exact h
theorem cb_split (r : Nat) {b : Nat} (hb : b < 256) : ∀ n, cb (b + 256 * r) (8 + n) = cb b 8 + cb r n
  | 0 => by
    have e : ∀ m, m ≤ 8 → cb (b + 256 * r) m = cb b m := by
      intro m
      induction m with
      | zero => intro _; rfl
      | succ m ih =>
        intro hm
        have t : (b + 256 * r).testBit m = b.testBit m := by rw [tb_split r hb, if_pos (by omega)]
        rw [cb, cb, ih (by omega), t]
    exact e 8 (by omega)
  | n + 1 => by
    show cb (b + 256 * r) (8 + n) + (if (b + 256 * r).testBit (8 + n) = true then 1 else 0) = _ + (cb r n + _)
    have t : (b + 256 * r).testBit (8 + n) = r.testBit n := by rw [tb_split r hb, if_neg (by omega), show 8 + n - 8 = n from by omega]
    rw [cb_split r hb n, t]
    omega
def MM (m : Nat) : Nat → Nat
  | 0 => 0
  | k + 1 => m + 256 * MM m k
theorem and_shift {b m s : Nat} (r M : Nat) (hb : b < 256) (hm : m < 2 ^ (8 - s)) (hs : s ≤ 8) : ((b + 256 * r) >>> s) &&& (m + 256 * M) = ((b >>> s) &&& m) + 256 * ((r >>> s) &&& M) := by
  have hm8 : m < 256 := Nat.lt_of_lt_of_le hm (Nat.pow_le_pow_right (n := 2) (by omega) (show 8 - s ≤ 8 by omega))
  apply Nat.eq_of_testBit_eq
  intro i
  rw [tb_split _ (Nat.lt_of_le_of_lt Nat.and_le_right hm8), Nat.testBit_and, tb_split M hm8, Nat.testBit_shiftRight, tb_split r hb]
  by_cases h : i < 8
  · rw [if_pos h, if_pos h, Nat.testBit_and, Nat.testBit_shiftRight]
    by_cases h2 : s + i < 8
    · rw [if_pos h2]
    · have z : m.testBit i = false := Nat.testBit_lt_two_pow (Nat.lt_of_lt_of_le hm (Nat.pow_le_pow_right (n := 2) (by omega) (by omega)))
      rw [z, Bool.and_false, Bool.and_false]
  · rw [if_neg h, if_neg h, if_neg (by omega), Nat.testBit_and, Nat.testBit_shiftRight, show s + i - 8 = s + (i - 8) from by omega]
def S1 (k x : Nat) : Nat := x - ((x >>> 1) &&& MM 85 k)
def S2 (k x : Nat) : Nat := (x &&& MM 51 k) + ((x >>> 2) &&& MM 51 k)
def S3 (k x : Nat) : Nat := (x + (x >>> 4)) &&& MM 15 k
theorem S1_split {b : Nat} (k r : Nat) (hb : b < 256) : S1 (k + 1) (b + 256 * r) = (b - ((b >>> 1) &&& 85)) + 256 * S1 k r := by
  unfold S1
  rw [MM, and_shift r _ hb (by decide) (by decide)]
  have h1 : (b >>> 1) &&& 85 ≤ b := Nat.le_trans Nat.and_le_left (by rw [Nat.shiftRight_eq_div_pow]; omega)
  have h2 : (r >>> 1) &&& MM 85 k ≤ r := Nat.le_trans Nat.and_le_left (by rw [Nat.shiftRight_eq_div_pow]; omega)
  omega
theorem S2_split {b : Nat} (k r : Nat) (hb : b < 256) : S2 (k + 1) (b + 256 * r) = ((b &&& 51) + ((b >>> 2) &&& 51)) + 256 * S2 k r := by
  unfold S2
  have h0 := and_shift (s := 0) (m := 51) r (MM 51 k) hb (by decide) (by decide)
  rw [Nat.shiftRight_zero, Nat.shiftRight_zero, Nat.shiftRight_zero] at h0
  rw [MM, h0, and_shift r _ hb (by decide) (by decide)]
  omega
theorem and15 {a c : Nat} (h : a < 16) : (a + 16 * c) &&& 15 = a := by
  rw [show (15 : Nat) = 2 ^ 4 - 1 from rfl, Nat.and_two_pow_sub_one_eq_mod]
  omega
theorem S3_split {c : Nat} (k d : Nat) (hc : c ≤ 68) (hd : d % 16 ≤ 4) : S3 (k + 1) (c + 256 * d) = ((c + c / 16) &&& 15) + 256 * S3 k d := by
  unfold S3
  rw [Nat.shiftRight_eq_div_pow, Nat.shiftRight_eq_div_pow, MM]
  have e : c + 256 * d + (c + 256 * d) / 2 ^ 4 = (c + c / 16 + 16 * (d % 16)) + 256 * (d + d / 2 ^ 4) := by omega
  have h0 := and_shift (s := 0) (b := c + c / 16 + 16 * (d % 16)) (m := 15) (d + d / 2 ^ 4) (MM 15 k) (by omega) (by decide) (by decide)
  rw [Nat.shiftRight_zero, Nat.shiftRight_zero, Nat.shiftRight_zero] at h0
  rw [e, h0]
  congr 1
  rw [show (15 : Nat) = 2 ^ 4 - 1 from rfl, Nat.and_two_pow_sub_one_eq_mod, Nat.and_two_pow_sub_one_eq_mod]
  omega
theorem pop8 : ∀ b, b < 256 → (let c := ((b - ((b >>> 1) &&& 85)) &&& 51) + (((b - ((b >>> 1) &&& 85)) >>> 2) &&& 51); ((c + c / 16) &&& 15) = cb b 8 ∧ c ≤ 68 ∧ c % 16 ≤ 4 ∧ b - ((b >>> 1) &&& 85) < 256) := by decide +kernel
theorem pops_step (b k r : Nat) (hb : b < 256) (hr : S2 k (S1 k r) % 16 ≤ 4) : S3 (k + 1) (S2 (k + 1) (S1 (k + 1) (b + 256 * r))) = cb b 8 + 256 * S3 k (S2 k (S1 k r)) ∧ S2 (k + 1) (S1 (k + 1) (b + 256 * r)) % 16 ≤ 4 := by
  obtain ⟨h1, h2, h3, h4⟩ := pop8 b hb
  rw [S1_split k r hb, S2_split k _ h4]
  refine ⟨?_, by omega⟩
  rw [S3_split k _ h2 hr, h1]
theorem pops0 (b : Nat) (hb : b < 256) : S3 1 (S2 1 (S1 1 b)) = cb b 8 ∧ S2 1 (S1 1 b) % 16 ≤ 4 := by
  have h := pops_step b 0 0 hb (by decide)
  rw [show b + 256 * 0 = b from by omega] at h
  refine ⟨?_, h.2⟩
  rw [h.1, show S3 0 (S2 0 (S1 0 0)) = 0 from rfl, Nat.mul_zero, Nat.add_zero]
theorem pops8 (x : Nat) (hx : x < 2 ^ 64) : ∃ p0 p1 p2 p3 p4 p5 p6 p7 : Nat, S3 8 (S2 8 (S1 8 x)) = p0 + 256 * (p1 + 256 * (p2 + 256 * (p3 + 256 * (p4 + 256 * (p5 + 256 * (p6 + 256 * p7)))))) ∧ cb x 64 = p0 + p1 + p2 + p3 + p4 + p5 + p6 + p7 ∧ p0 ≤ 8 ∧ p1 ≤ 8 ∧ p2 ≤ 8 ∧ p3 ≤ 8 ∧ p4 ≤ 8 ∧ p5 ≤ 8 ∧ p6 ≤ 8 ∧ p7 ≤ 8 := by
  have step : ∀ (k y : Nat), (∀ z, z < 256 ^ (k + 1) → S2 (k + 1) (S1 (k + 1) z) % 16 ≤ 4) → y < 256 ^ (k + 2) → S3 (k + 2) (S2 (k + 2) (S1 (k + 2) y)) = cb (y % 256) 8 + 256 * S3 (k + 1) (S2 (k + 1) (S1 (k + 1) (y / 256))) ∧ S2 (k + 2) (S1 (k + 2) y) % 16 ≤ 4 := by
    intro k y hk hy
    have e : y = y % 256 + 256 * (y / 256) := by omega
    have hy2 : y / 256 < 256 ^ (k + 1) := by
      rw [Nat.pow_succ] at hy
      omega
    have h := pops_step (y % 256) (k + 1) (y / 256) (Nat.mod_lt _ (by omega)) (hk _ hy2)
    rw [← e] at h
    exact h
  have q1 : ∀ z, z < 256 ^ 1 → S2 1 (S1 1 z) % 16 ≤ 4 := fun z hz => (pops0 z hz).2
  have q2 : ∀ z, z < 256 ^ 2 → S2 2 (S1 2 z) % 16 ≤ 4 := fun z hz => (step 0 z q1 hz).2
  have q3 : ∀ z, z < 256 ^ 3 → S2 3 (S1 3 z) % 16 ≤ 4 := fun z hz => (step 1 z q2 hz).2
  have q4 : ∀ z, z < 256 ^ 4 → S2 4 (S1 4 z) % 16 ≤ 4 := fun z hz => (step 2 z q3 hz).2
  have q5 : ∀ z, z < 256 ^ 5 → S2 5 (S1 5 z) % 16 ≤ 4 := fun z hz => (step 3 z q4 hz).2
  have q6 : ∀ z, z < 256 ^ 6 → S2 6 (S1 6 z) % 16 ≤ 4 := fun z hz => (step 4 z q5 hz).2
  have q7 : ∀ z, z < 256 ^ 7 → S2 7 (S1 7 z) % 16 ≤ 4 := fun z hz => (step 5 z q6 hz).2
  have cs : ∀ (y n : Nat), cb y (8 + n) = cb (y % 256) 8 + cb (y / 256) n := by
    intro y n
    have e : y = y % 256 + 256 * (y / 256) := by omega
    have h := cb_split (y / 256) (b := y % 256) (Nat.mod_lt _ (by omega)) n
    rw [← e] at h
    exact h
  have hx8 : x < 256 ^ 8 := by
    have : (256 : Nat) ^ 8 = 2 ^ 64 := by decide
    omega
  have r7 := (step 6 x q7 hx8).1
  have r6 := (step 5 (x / 256) q6 (by omega)).1
  have r5 := (step 4 (x / 256 / 256) q5 (by omega)).1
  have r4 := (step 3 (x / 256 / 256 / 256) q4 (by omega)).1
  have r3 := (step 2 (x / 256 / 256 / 256 / 256) q3 (by omega)).1
  have r2 := (step 1 (x / 256 / 256 / 256 / 256 / 256) q2 (by omega)).1
  have r1 := (step 0 (x / 256 / 256 / 256 / 256 / 256 / 256) q1 (by omega)).1
  have r0 := (pops0 (x / 256 / 256 / 256 / 256 / 256 / 256 / 256) (by omega)).1
  refine ⟨cb (x % 256) 8, cb (x / 256 % 256) 8, cb (x / 256 / 256 % 256) 8, cb (x / 256 / 256 / 256 % 256) 8, cb (x / 256 / 256 / 256 / 256 % 256) 8, cb (x / 256 / 256 / 256 / 256 / 256 % 256) 8, cb (x / 256 / 256 / 256 / 256 / 256 / 256 % 256) 8, cb (x / 256 / 256 / 256 / 256 / 256 / 256 / 256) 8, ?_, ?_, cb_le _ 8, cb_le _ 8, cb_le _ 8, cb_le _ 8, cb_le _ 8, cb_le _ 8, cb_le _ 8, cb_le _ 8⟩
  · rw [r7, r6, r5, r4, r3, r2, r1, r0]
  · rw [show (64 : Nat) = 8 + 56 from rfl, cs, show (56 : Nat) = 8 + 48 from rfl, cs, show (48 : Nat) = 8 + 40 from rfl, cs, show (40 : Nat) = 8 + 32 from rfl, cs, show (32 : Nat) = 8 + 24 from rfl, cs, show (24 : Nat) = 8 + 16 from rfl, cs, show (16 : Nat) = 8 + 8 from rfl, cs]
    omega
def tn (x : Int64) : Nat := x.toBitVec.toNat
theorem tn_lt (x : Int64) : tn x < 2 ^ 64 := x.toBitVec.isLt
theorem tn_and (x y : Int64) : tn (x &&& y) = tn x &&& tn y := by unfold tn; rw [Int64.toBitVec_and, BitVec.toNat_and]
theorem tn_add {x y : Int64} (h : tn x + tn y < 2 ^ 64) : tn (x + y) = tn x + tn y := by
  unfold tn at *
  rw [Int64.toBitVec_add, BitVec.toNat_add, Nat.mod_eq_of_lt h]
theorem tn_sub {x y : Int64} (h : tn y ≤ tn x) : tn (x - y) = tn x - tn y := by
  unfold tn at *
  rw [Int64.toBitVec_sub, BitVec.toNat_sub_of_le (BitVec.le_def.mpr h)]
theorem tn_shr (x : Int64) (k : Int32) (n : Nat) (h : ((k.toInt64.toUInt64 &&& Int64.toUInt64 63).toBitVec % 64).toNat = n) : tn ((x.toUInt64 >>> (k.toInt64.toUInt64 &&& Int64.toUInt64 63)).toInt64) = tn x >>> n := by
  unfold tn
  show (x.toUInt64 >>> (k.toInt64.toUInt64 &&& Int64.toUInt64 63)).toBitVec.toNat = x.toUInt64.toBitVec.toNat >>> n
  rw [UInt64.toBitVec_shiftRight]
  show (x.toUInt64.toBitVec >>> ((k.toInt64.toUInt64 &&& Int64.toUInt64 63).toBitVec % 64).toNat).toNat = _
  rw [h, BitVec.toNat_ushiftRight]
theorem MM8 : MM 85 8 = tn 6148914691236517205 ∧ MM 51 8 = tn 3689348814741910323 ∧ MM 15 8 = tn 1085102592571150095 := by decide +kernel
theorem dv256 (p A : Nat) (h : p < 256) : (p + 256 * A) / 256 = A := by omega
theorem dv65536 (p A : Nat) (h : p < 65536) : (p + 65536 * A) / 65536 = A := by omega
theorem dv32 (p A : Nat) (h : p < 4294967296) : (p + 4294967296 * A) / 4294967296 = A := by omega
theorem md128 (s K : Nat) (h : s < 128) : (s + 128 * K) % 128 = s := by omega
theorem id4 (p0 p1 p2 p3 p4 p5 p6 p7 : Nat) : p0 + 256 * (p1 + 256 * (p2 + 256 * (p3 + 256 * (p4 + 256 * (p5 + 256 * (p6 + 256 * p7)))))) + (p1 + 256 * (p2 + 256 * (p3 + 256 * (p4 + 256 * (p5 + 256 * (p6 + 256 * p7)))))) = ((p0 + p1) + 256 * (p1 + p2)) + 65536 * ((p2 + p3) + 256 * ((p3 + p4) + 256 * ((p4 + p5) + 256 * ((p5 + p6) + 256 * ((p6 + p7) + 256 * p7))))) := by omega
theorem id5 (p0 p1 p2 p3 p4 p5 p6 p7 : Nat) : ((p0 + p1) + 256 * (p1 + p2)) + 65536 * ((p2 + p3) + 256 * ((p3 + p4) + 256 * ((p4 + p5) + 256 * ((p5 + p6) + 256 * ((p6 + p7) + 256 * p7))))) + ((p2 + p3) + 256 * ((p3 + p4) + 256 * ((p4 + p5) + 256 * ((p5 + p6) + 256 * ((p6 + p7) + 256 * p7))))) = ((p0 + p1 + p2 + p3) + 256 * ((p1 + p2 + p3 + p4) + 256 * ((p2 + p3 + p4 + p5) + 256 * (p3 + p4 + p5 + p6)))) + 4294967296 * ((p4 + p5 + p6 + p7) + 256 * ((p5 + p6 + p7) + 256 * ((p6 + p7) + 256 * p7))) := by omega
theorem id6 (p0 p1 p2 p3 p4 p5 p6 p7 : Nat) : ((p0 + p1 + p2 + p3) + 256 * ((p1 + p2 + p3 + p4) + 256 * ((p2 + p3 + p4 + p5) + 256 * (p3 + p4 + p5 + p6)))) + 4294967296 * ((p4 + p5 + p6 + p7) + 256 * ((p5 + p6 + p7) + 256 * ((p6 + p7) + 256 * p7))) + ((p4 + p5 + p6 + p7) + 256 * ((p5 + p6 + p7) + 256 * ((p6 + p7) + 256 * p7))) = (p0 + p1 + p2 + p3 + p4 + p5 + p6 + p7) + 128 * (2 * ((p1 + p2 + p3 + p4) + 256 * ((p2 + p3 + p4 + p5) + 256 * (p3 + p4 + p5 + p6))) + 33554432 * ((p4 + p5 + p6 + p7) + 256 * ((p5 + p6 + p7) + 256 * ((p6 + p7) + 256 * p7))) + 2 * ((p5 + p6 + p7) + 256 * ((p6 + p7) + 256 * p7))) := by omega
theorem pops_add {p0 p1 p2 p3 p4 p5 p6 p7 t3 t4 t5 t6 : Nat} (q0 : p0 ≤ 8) (q1 : p1 ≤ 8) (q2 : p2 ≤ 8) (q3 : p3 ≤ 8) (q4 : p4 ≤ 8) (q5 : p5 ≤ 8) (q6 : p6 ≤ 8) (q7 : p7 ≤ 8)
    (e3 : t3 = p0 + 256 * (p1 + 256 * (p2 + 256 * (p3 + 256 * (p4 + 256 * (p5 + 256 * (p6 + 256 * p7))))))) (e4 : t4 = t3 + t3 / 256) (e5 : t5 = t4 + t4 / 65536) (e6 : t6 = t5 + t5 / 4294967296) : t6 % 128 = p0 + p1 + p2 + p3 + p4 + p5 + p6 + p7 := by
  have s0 : p0 < 256 := by clear e3 e4 e5 e6; omega
  have s1 : (p0 + p1) + 256 * (p1 + p2) < 65536 := by clear e3 e4 e5 e6; omega
  have s2 : (p0 + p1 + p2 + p3) + 256 * ((p1 + p2 + p3 + p4) + 256 * ((p2 + p3 + p4 + p5) + 256 * (p3 + p4 + p5 + p6))) < 4294967296 := by clear e3 e4 e5 e6; omega
  have s3 : p0 + p1 + p2 + p3 + p4 + p5 + p6 + p7 < 128 := by clear e3 e4 e5 e6; omega
  have f4 := e4
  rw [e3, dv256 _ _ s0, id4] at f4
  have f5 := e5
  rw [f4, dv65536 _ _ s1, id5] at f5
  rw [e6, f5, dv32 _ _ s2, id6, md128 _ _ s3]
theorem b64 {t : Nat} (h : t ≤ 1085102592571150095) : t + t / 2 ^ 8 < 2 ^ 64 := by omega
theorem b4of {t : Nat} (h : t ≤ 1085102592571150095) : t + t / 256 ≤ 1089341274573381151 := by omega
theorem b65 {t : Nat} (h : t ≤ 1089341274573381151) : t + t / 2 ^ 16 < 2 ^ 64 := by omega
theorem b5of {t : Nat} (h : t ≤ 1089341274573381151) : t + t / 65536 ≤ 1089357896626060000 := by omega
theorem b66 {t : Nat} (h : t ≤ 1089357896626060000) : t + t / 2 ^ 32 < 2 ^ 64 := by omega
theorem bitC_of (x a1 a2 a3 a4 a5 a6 : Int64) (d1 : a1 = x - ((x.toUInt64 >>> ((1 : Int32).toInt64.toUInt64 &&& Int64.toUInt64 63)).toInt64 &&& 6148914691236517205))
    (d2 : a2 = (a1 &&& 3689348814741910323) + ((a1.toUInt64 >>> ((2 : Int32).toInt64.toUInt64 &&& Int64.toUInt64 63)).toInt64 &&& 3689348814741910323))
    (d3 : a3 = (a2 + (a2.toUInt64 >>> ((4 : Int32).toInt64.toUInt64 &&& Int64.toUInt64 63)).toInt64) &&& 1085102592571150095)
    (d4 : a4 = a3 + (a3.toUInt64 >>> ((8 : Int32).toInt64.toUInt64 &&& Int64.toUInt64 63)).toInt64)
    (d5 : a5 = a4 + (a4.toUInt64 >>> ((16 : Int32).toInt64.toUInt64 &&& Int64.toUInt64 63)).toInt64)
    (d6 : a6 = a5 + (a5.toUInt64 >>> ((32 : Int32).toInt64.toUInt64 &&& Int64.toUInt64 63)).toInt64) : a6.toInt32 &&& 127 = nI (cb (tn x) 64) := by
  obtain ⟨m1, m2, m3⟩ := MM8
  obtain ⟨p0, p1, p2, p3, p4, p5, p6, p7, e8, ec, q0, q1, q2, q3, q4, q5, q6, q7⟩ := pops8 (tn x) (tn_lt x)
  have e1 : tn a1 = S1 8 (tn x) := by
    have t : tn ((x.toUInt64 >>> ((1 : Int32).toInt64.toUInt64 &&& Int64.toUInt64 63)).toInt64 &&& 6148914691236517205) = (tn x >>> 1) &&& MM 85 8 := by rw [tn_and, tn_shr x 1 1 (by decide), m1]
    rw [d1, tn_sub (by rw [t]; exact Nat.le_trans Nat.and_le_left (by rw [Nat.shiftRight_eq_div_pow]; omega)), t]
    rfl
  have c2 : tn 3689348814741910323 = 3689348814741910323 := by decide +kernel
  have b1 : tn a1 &&& MM 51 8 ≤ 3689348814741910323 := by
    rw [m2, c2]
    exact Nat.and_le_right
  have b2 : (tn a1 >>> 2) &&& MM 51 8 ≤ 3689348814741910323 := by
    rw [m2, c2]
    exact Nat.and_le_right
  have e2 : tn a2 = S2 8 (tn a1) := by
    have t1 : tn (a1 &&& 3689348814741910323) = tn a1 &&& MM 51 8 := by rw [tn_and, m2]
    have t2 : tn ((a1.toUInt64 >>> ((2 : Int32).toInt64.toUInt64 &&& Int64.toUInt64 63)).toInt64 &&& 3689348814741910323) = (tn a1 >>> 2) &&& MM 51 8 := by rw [tn_and, tn_shr a1 2 2 (by decide), m2]
    rw [d2, tn_add (by rw [t1, t2]; omega), t1, t2]
    rfl
  have b3 : tn a2 ≤ 7378697629483820646 := by
    rw [e2]
    unfold S2
    omega
  have e3 : tn a3 = S3 8 (tn a2) := by
    have t := tn_shr a2 4 4 (by decide)
    have t2 : tn a2 >>> 4 ≤ 461168601842738790 := by rw [Nat.shiftRight_eq_div_pow]; omega
    rw [d3, tn_and, tn_add (by rw [t]; omega), t, ← m3]
    rfl
  have b63 : tn a3 ≤ 1085102592571150095 := by
    have c3 : tn 1085102592571150095 = 1085102592571150095 := by decide +kernel
    rw [e3, S3, m3, c3]
    exact Nat.and_le_right
  rw [e2, e1, e8] at e3
  have e4 : tn a4 = tn a3 + tn a3 / 256 := by
    have t := tn_shr a3 8 8 (by decide)
    rw [Nat.shiftRight_eq_div_pow] at t
    rw [d4, tn_add (by rw [t]; exact b64 b63), t]
  have b4 : tn a4 ≤ 1089341274573381151 := by
    rw [e4]
    exact b4of b63
  have e5 : tn a5 = tn a4 + tn a4 / 65536 := by
    have t := tn_shr a4 16 16 (by decide)
    rw [Nat.shiftRight_eq_div_pow] at t
    rw [d5, tn_add (by rw [t]; exact b65 b4), t]
  have b5 : tn a5 ≤ 1089357896626060000 := by
    rw [e5]
    exact b5of b4
  have e6 : tn a6 = tn a5 + tn a5 / 4294967296 := by
    have t := tn_shr a5 32 32 (by decide)
    rw [Nat.shiftRight_eq_div_pow] at t
    rw [d6, tn_add (by rw [t]; exact b66 b5), t]
  have e7 : tn a6 % 128 = cb (tn x) 64 := by
    rw [ec]
    exact pops_add q0 q1 q2 q3 q4 q5 q6 q7 e3 e4 e5 e6
  apply Int32.toBitVec_inj.mp
  apply BitVec.eq_of_toNat_eq
  rw [Int32.toBitVec_and, BitVec.toNat_and]
  have l1 : a6.toInt32.toBitVec.toNat = tn a6 % 2 ^ 32 := by
    show (a6.toBitVec.signExtend 32).toNat = _
    rw [BitVec.signExtend_eq_setWidth_of_le _ (by decide), BitVec.toNat_setWidth]
    rfl
  have l2 : (127 : Int32).toBitVec.toNat = 2 ^ 7 - 1 := by decide
  have l3 : (nI (cb (tn x) 64)).toBitVec.toNat = cb (tn x) 64 := by
    have := cb_le (tn x) 64
    show (cb (tn x) 64) % 2 ^ 32 = _
    omega
  rw [l1, l2, l3, Nat.and_two_pow_sub_one_eq_mod, ← e7]
  omega
theorem bitC_eq (x : Int64) : bitC x = nI (cb (tn x) 64) := bitC_of x _ _ _ _ _ _ rfl rfl rfl rfl rfl rfl
theorem cb_bl (x : Int64) : ∀ n, cb (tn x) n = cntB (bl x) n
  | 0 => rfl
  | n + 1 => by
    rw [cb, cntB, cb_bl x n]
    rfl
theorem cntB_word (p : Nat → Bool) (wd : Nat → Int64) (w : Nat) (h : ∀ i, i < 64 → bl (wd w) i = p (64 * w + i)) : ∀ n, n ≤ 64 → cntB p (64 * w + n) = cntB p (64 * w) + cntB (bl (wd w)) n
  | 0, _ => rfl
  | n + 1, hn => by
    show cntB p (64 * w + n) + (if p (64 * w + n) = true then 1 else 0) = cntB p (64 * w) + (cntB (bl (wd w)) n + _)
    rw [cntB_word p wd w h n (by omega), h n (by omega)]
    omega
theorem cntL_eq (wd : Nat → Int64) (p : Nat → Bool) (h : ∀ v, v < 4096 → bW wd v = p v) : ∀ n, n ≤ 64 → cntL wd n = nI (cntB p (64 * n))
  | 0, _ => rfl
  | n + 1, hn => by
    have hw : ∀ i, i < 64 → bl (wd n) i = p (64 * n + i) := by
      intro i hi
      have := h (64 * n + i) (by omega)
      unfold bW at this
      rw [show (64 * n + i) / 64 = n from by omega, show (64 * n + i) % 64 = i from by omega] at this
      exact this
    rw [cntL, cntL_eq wd p h n (by omega), bitC_eq, cb_bl, nI_add, show 64 * (n + 1) = 64 * n + 64 from by omega, cntB_word p wd n hw 64 (by omega)]
theorem sums_eq {f : Nat → Int32} {n : Nat} (hw : ∀ k, k < n → wN (f k) ≤ 2048) : cntL (fillG f n) 64 = nI (cntB (sumB f n) 4096) := cntL_eq _ _ (fill_sumB f n hw) 64 (by omega)
theorem set_rg {f : Nat → Int32} {i n : Nat} {x : Int32} (h : ∀ k, k < n → 1 ≤ (f k).toInt ∧ (f k).toInt ≤ 2048) (hx : 1 ≤ x.toInt ∧ x.toInt ≤ 2048) : ∀ k, k < n → 1 ≤ (upd f i x k).toInt ∧ (upd f i x k).toInt ≤ 2048 := by
  intro k hk
  rw [upd]
  split
  · exact hx
  · exact h k hk
theorem ins_rg {f : Nat → Int32} {i n : Nat} {x : Int32} (hi : i ≤ n) (h : ∀ k, k < n → 1 ≤ (f k).toInt ∧ (f k).toInt ≤ 2048) (hx : 1 ≤ x.toInt ∧ x.toInt ≤ 2048) : ∀ k, k < n + 1 → 1 ≤ (insA f i n x k).toInt ∧ (insA f i n x k).toInt ≤ 2048 := by
  intro k hk
  rw [insA]
  by_cases a : k < i
  · rw [if_pos a]
    exact h k (by omega)
  · rw [if_neg a]
    by_cases b : k = i
    · rw [if_pos b]
      exact hx
    · rw [if_neg b, if_pos (by omega)]
      exact h (k - 1) (by omega)
theorem del_rg {f : Nat → Int32} {i n : Nat} (h : ∀ k, k < n → 1 ≤ (f k).toInt ∧ (f k).toInt ≤ 2048) : ∀ k, k < n - 1 → 1 ≤ (delA f i n k).toInt ∧ (delA f i n k).toInt ≤ 2048 := by
  intro k hk
  rw [delA]
  split
  · exact h (k + 1) (by omega)
  · exact h k (by omega)
theorem srt_rg {f : Nat → Int32} {n : Nat} (hn : 1 ≤ n) (h : ∀ k, k < n → 1 ≤ (f k).toInt ∧ (f k).toInt ≤ 2048) : ∀ k, k < n → 1 ≤ (srtG f (n - 1) k).toInt ∧ (srtG f (n - 1) k).toInt ≤ 2048 := by
  intro k hk
  obtain ⟨i, a, -, c⟩ := srtG_rnk f (n - 1) k (by omega)
  rw [c]
  exact h i (by omega)
theorem i_idx {p : Int32} {n : Nat} (hn : n < 2 ^ 31) (h1 : ¬ p < 0) (h2 : p < nI n) : ∃ i, i < n ∧ p = nI i := by
  have z0 : (0 : Int32).toInt = 0 := by decide
  have e := nI_toInt hn
  rw [i_lt, z0] at h1
  rw [i_lt, e] at h2
  refine ⟨p.toInt.toNat, by omega, ?_⟩
  rw [i_eq, nI_toInt (by omega)]
  omega
