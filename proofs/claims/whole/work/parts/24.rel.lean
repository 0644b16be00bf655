/-! the class's words beside the model's: states that agree, what stays in range, congruence -/
def zR (z y : StV) : Prop := z.1 = y.1 ∧ z.2.1 = y.2.1 ∧ z.2.2.1 = y.2.2.1 ∧ z.2.2.2.1 = y.2.2.2.1 ∧ z.2.2.2.2.1 = y.2.2.2.2.1 ∧ z.2.2.2.2.2.1 = y.2.2.2.2.2.1 ∧ z.2.2.2.2.2.2.1 = y.2.2.2.2.2.2.1 ∧ (∀ k, k < z.2.2.2.2.2.1 → z.2.2.2.2.2.2.2.1 k = y.2.2.2.2.2.2.2.1 k) ∧ z.2.2.2.2.2.2.2.2 = y.2.2.2.2.2.2.2.2
def zW (z : StV) : Prop := (0 ≤ z.1.toInt ∧ z.1.toInt ≤ 65535) ∧ (1 ≤ z.2.1.toInt ∧ z.2.1.toInt ≤ 16) ∧ (0 ≤ z.2.2.1.toInt ∧ z.2.2.1.toInt ≤ 64) ∧ (1 ≤ z.2.2.2.2.2.1 ∧ z.2.2.2.2.2.1 ≤ 12) ∧ z.2.2.2.2.2.2.1 ≤ 8 ∧ ∀ k, k < z.2.2.2.2.2.1 → 1 ≤ (z.2.2.2.2.2.2.2.1 k).toInt ∧ (z.2.2.2.2.2.2.2.1 k).toInt ≤ 2048
theorem zR_refl (z : StV) : zR z z := ⟨rfl, rfl, rfl, rfl, rfl, rfl, rfl, fun _ _ => rfl, rfl⟩
theorem zW_ini : zW zIni := ⟨by decide, by decide, by decide, by decide, by decide, by decide⟩
theorem tdvN (a : Int) (h : 0 ≤ a) : 0 ≤ a.tdiv 4096 ∧ 4096 * a.tdiv 4096 ≤ a := by
  rw [Int.tdiv_eq_ediv_of_nonneg h]
  omega
theorem i_div4096 {x : Int32} : (x / 4096).toInt = x.toInt.tdiv 4096 := by
  have h1 := x.toInt_lt
  have h2 : -2147483648 ≤ x.toInt := by have := x.le_toInt; omega
  rw [Int32.toInt_div]
  show (x.toInt.tdiv 4096).bmod (2 ^ 32) = _
  apply Int.bmod_eq_of_le
  · have := Int.tdiv_le_tdiv (c := 4096) (by omega) h2
    have e : (-2147483648 : Int).tdiv 4096 = -524288 := by decide
    omega
  · have := Int.tdiv_le_tdiv (c := 4096) (by omega) (show x.toInt ≤ 2147483647 by omega)
    have e : (2147483647 : Int).tdiv 4096 = 524287 := by decide
    omega
theorem hTick_rng {v leak : Int32} (h : 0 ≤ v.toInt ∧ v.toInt ≤ 65535) (hl : 0 ≤ leak.toInt ∧ leak.toInt ≤ 64) : 0 ≤ (hTick v leak).toInt ∧ (hTick v leak).toInt ≤ 65535 := by
  have m1 : 0 ≤ v.toInt * leak.toInt := Int.mul_nonneg h.1 hl.1
  have m2 : v.toInt * leak.toInt ≤ v.toInt * 64 := Int.mul_le_mul_of_nonneg_left hl.2 h.1
  have e1 : (v * leak).toInt = v.toInt * leak.toInt := i_mul (by omega) (by omega)
  have e2 : (v * leak / 4096).toInt = (v.toInt * leak.toInt).tdiv 4096 := by rw [i_div4096, e1]
  have t := tdvN _ m1
  have e3 : (v - v * leak / 4096).toInt = v.toInt - (v.toInt * leak.toInt).tdiv 4096 := by
    rw [i_sub (by rw [e2]; omega) (by rw [e2]; omega), e2]
  rw [hTick, e3]
  omega
theorem hItr_rng {leak : Int32} (hl : 0 ≤ leak.toInt ∧ leak.toInt ≤ 64) : ∀ (k : Nat) {v : Int32}, 0 ≤ v.toInt ∧ v.toInt ≤ 65535 → 0 ≤ (hItr leak k v).toInt ∧ (hItr leak k v).toInt ≤ 65535
  | 0, _, h => h
  | k + 1, _, h => hTick_rng (hItr_rng hl k h) hl
theorem sTick_rng {v inp rate : Int32} (h : 0 ≤ v.toInt ∧ v.toInt ≤ 65535) (hi : 0 ≤ inp.toInt ∧ inp.toInt ≤ 65535) (hr : 1 ≤ rate.toInt ∧ rate.toInt ≤ 16) : 0 ≤ (sTick v inp rate).toInt ∧ (sTick v inp rate).toInt ≤ 65535 := by
  have e1 : (inp - v).toInt = inp.toInt - v.toInt := i_sub (by omega) (by omega)
  have b : -1048560 ≤ (inp.toInt - v.toInt) * rate.toInt ∧ (inp.toInt - v.toInt) * rate.toInt ≤ 1048560 ∧ (0 ≤ inp.toInt - v.toInt → 0 ≤ (inp.toInt - v.toInt) * rate.toInt ∧ (inp.toInt - v.toInt) * rate.toInt ≤ (inp.toInt - v.toInt) * 16) ∧ (inp.toInt - v.toInt ≤ 0 → (inp.toInt - v.toInt) * rate.toInt ≤ 0 ∧ (inp.toInt - v.toInt) * 16 ≤ (inp.toInt - v.toInt) * rate.toInt) := by
    by_cases hd : 0 ≤ inp.toInt - v.toInt
    · have m1 : 0 ≤ (inp.toInt - v.toInt) * rate.toInt := Int.mul_nonneg hd (by omega)
      have m2 : (inp.toInt - v.toInt) * rate.toInt ≤ (inp.toInt - v.toInt) * 16 := Int.mul_le_mul_of_nonneg_left hr.2 hd
      refine ⟨by omega, by omega, fun _ => ⟨m1, m2⟩, fun q => ?_⟩
      have z : inp.toInt - v.toInt = 0 := by omega
      rw [z]
      omega
    · have m1 : (inp.toInt - v.toInt) * rate.toInt ≤ 0 := Int.mul_nonpos_of_nonpos_of_nonneg (by omega) (by omega)
      have m2 : (inp.toInt - v.toInt) * 16 ≤ (inp.toInt - v.toInt) * rate.toInt := Int.mul_le_mul_of_nonpos_left (by omega) hr.2
      exact ⟨by omega, by omega, fun q => absurd q hd, fun _ => ⟨m1, m2⟩⟩
  have e2 : ((inp - v) * rate).toInt = (inp.toInt - v.toInt) * rate.toInt := by
    rw [i_mul (by rw [e1]; omega) (by rw [e1]; omega), e1]
  have e3 : ((inp - v) * rate / 16).toInt = ((inp.toInt - v.toInt) * rate.toInt).tdiv 16 := by rw [i_div16, e2]
  have t := tdv ((inp.toInt - v.toInt) * rate.toInt)
  rw [sTick]
  generalize (inp - v) * rate / 16 = q at e3 ⊢
  generalize (inp.toInt - v.toInt) * rate.toInt = P at b e3 t
  have c1 : (1 : Int32).toInt = 1 := by decide
  have c2 : (-1 : Int32).toInt = -1 := by decide
  by_cases hq : q = 0
  · rw [if_pos hq]
    by_cases h1 : v < inp
    · rw [if_pos h1]
      rw [i_lt] at h1
      rw [i_add (by rw [c1]; omega) (by rw [c1]; omega), c1]
      omega
    · rw [if_neg h1]
      by_cases h2 : inp < v
      · rw [if_pos h2]
        rw [i_lt] at h2
        rw [i_add (by rw [c2]; omega) (by rw [c2]; omega), c2]
        omega
      · rw [if_neg h2]
        exact h
  · rw [if_neg hq]
    rw [i_add (by omega) (by omega)]
    omega
theorem sItr_rng {inp rate : Int32} (hi : 0 ≤ inp.toInt ∧ inp.toInt ≤ 65535) (hr : 1 ≤ rate.toInt ∧ rate.toInt ≤ 16) : ∀ (k : Nat) {v : Int32}, 0 ≤ v.toInt ∧ v.toInt ≤ 65535 → 0 ≤ (sItr inp rate k v).toInt ∧ (sItr inp rate k v).toInt ≤ 65535
  | 0, _, h => h
  | k + 1, _, h => sTick_rng (sItr_rng hi hr k h) hi hr
theorem wgS_left (f : Nat → Int32) (leak off gl v0 : Int32) : ∀ n, (wgS f leak off gl v0 n).1 = hItr leak n v0
  | 0 => rfl
  | n + 1 => by
    rw [wgS, hItr, ← wgS_left f leak off gl v0 n, wgT]
    (repeat' split) <;> rfl
-- congruence
theorem sumW_cg {f g : Nat → Int32} : ∀ n, (∀ k, k < n → f k = g k) → sumW f n = sumW g n
  | 0, _ => rfl
  | n + 1, h => by rw [sumW, sumW, sumW_cg n (fun k hk => h k (by omega)), h n (by omega)]
theorem rnk_cg {f g : Nat → Int32} {i : Nat} (hi : f i = g i) : ∀ n, (∀ k, k < n → f k = g k) → rnk f i n = rnk g i n
  | 0, _ => rfl
  | n + 1, h => by rw [rnk, rnk, rnk_cg hi n (fun k hk => h k (by omega)), h n (by omega), hi]
theorem misp_cg {f g : Nat → Int32} {n : Nat} (h : ∀ k, k < n → f k = g k) : ∀ m, m ≤ n → misp f n m = misp g n m
  | 0, _ => rfl
  | m + 1, hm => by rw [misp, misp, misp_cg h m (by omega), rnk_cg (h m (by omega)) n h]
theorem wgS_cg {f g : Nat → Int32} {leak off gl v0 : Int32} : ∀ n, (∀ k, k < n → f k = g k) → wgS f leak off gl v0 n = wgS g leak off gl v0 n
  | 0, _ => rfl
  | n + 1, h => by rw [wgS, wgS, wgS_cg n (fun k hk => h k (by omega)), h n (by omega)]
theorem mdC_cg {f g : Nat → Int32} {n i : Nat} (h : ∀ k, k < n → f k = g k) : ∀ m, mdC f n i m = mdC g n i m
  | 0 => rfl
  | m + 1 => by rw [mdC, mdC, mdC_cg h m, wgS_cg n h]
theorem tcGo_cg {f g : Nat → Int32} {n : Nat} {leak c0 : Int32} (h : ∀ k, k < n → f k = g k) : ∀ (m t : Nat) (v : Int32), tcGo f n leak c0 m t v = tcGo g n leak c0 m t v
  | 0, _, _ => rfl
  | m + 1, t, v => by rw [tcGo, tcGo, wgS_cg n h, tcGo_cg h m]
theorem digW_cg {f g : Nat → Int32} {n : Nat} {h0 : Int64} (h : ∀ k, k < n → f k = g k) : ∀ m, m ≤ n → digW f n h0 m = digW g n h0 m
  | 0, _ => rfl
  | m + 1, hm => by rw [digW, digW, digW_cg h m (by omega), h m (by omega), mdC_cg h]
theorem fillG_cg {f g : Nat → Int32} : ∀ n, (∀ k, k < n → f k = g k) → fillG f n = fillG g n
  | 0, _ => rfl
  | n + 1, h => by rw [fillG, fillG, fillG_cg n (fun k hk => h k (by omega)), h n (by omega)]
theorem sumB_cg {f g : Nat → Int32} : ∀ n, (∀ k, k < n → f k = g k) → sumB f n = sumB g n
  | 0, _ => rfl
  | n + 1, h => by
    funext v
    have e := sumB_cg n (fun k hk => h k (by omega))
    rw [sumB, sumB, e, h n (by omega)]
