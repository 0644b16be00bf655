/-! what the property rests on: states in their ranges, the saved ones, what is weighed, the sums, the sorted row -/
def zL (z : StV) : Prop := (-64 ≤ z.2.2.2.1.toInt ∧ z.2.2.2.1.toInt ≤ 64) ∧ ∀ i, i < z.2.2.2.2.2.2.1 → (0 ≤ (z.2.2.2.2.2.2.2.2.1 i).toInt ∧ (z.2.2.2.2.2.2.2.2.1 i).toInt ≤ 65535) ∧ (0 ≤ (z.2.2.2.2.2.2.2.2.2.1 i).toInt ∧ (z.2.2.2.2.2.2.2.2.2.1 i).toInt ≤ 4095) ∧ (0 ≤ (z.2.2.2.2.2.2.2.2.2.2 i).toInt ∧ (z.2.2.2.2.2.2.2.2.2.2 i).toInt ≤ 24576) ∧ (z.2.2.2.2.2.2.2.2.2.2 i = 0 ↔ z.2.2.2.2.2.2.2.2.2.1 i = 0)
def zI (z : StV) : Prop := zW z ∧ zL z
theorem zI_ini : zI zIni := ⟨⟨by decide, by decide, by decide, by decide, by decide, by decide⟩, ⟨by decide, fun i h => absurd h (Nat.not_lt_zero _)⟩⟩
def oI (z : StV) (nx cnt : Nat) (S : Nat → StV) : Prop := zI z ∧ nx < 6 ∧ cnt ≤ 6 ∧ ∀ j, j < cnt → zI (S ((nx + 6 - cnt + j) % 6))
theorem oI_ini (S : Nat → StV) : oI zIni 0 0 S := ⟨zI_ini, by omega, by omega, fun j h => absurd h (Nat.not_lt_zero _)⟩
theorem oI_push {z z1 : StV} {nx cnt : Nat} {S : Nat → StV} (h : oI z nx cnt S) (h1 : zI z1) : oI z1 ((nx + 1) % 6) (min (cnt + 1) 6) (updS S nx z) := by
  obtain ⟨hz, hn, hc, hs⟩ := h
  refine ⟨h1, by omega, by omega, fun j hj => ?_⟩
  by_cases q : ((nx + 1) % 6 + 6 - min (cnt + 1) 6 + j) % 6 = nx
  · rw [updS, if_pos q]
    exact hz
  · rw [updS, if_neg q]
    by_cases c : cnt = 6
    · rw [show ((nx + 1) % 6 + 6 - min (cnt + 1) 6 + j) % 6 = (nx + 6 - cnt + (j + 1)) % 6 from by omega]
      exact hs (j + 1) (by omega)
    · rw [show ((nx + 1) % 6 + 6 - min (cnt + 1) 6 + j) % 6 = (nx + 6 - cnt + j) % 6 from by omega]
      exact hs j (by omega)
theorem oI_pop {z : StV} {nx cnt : Nat} {S : Nat → StV} (h : oI z nx cnt S) (h1 : 1 ≤ cnt) : oI (S ((nx + 5) % 6)) ((nx + 5) % 6) (cnt - 1) S := by
  obtain ⟨hz, hn, hc, hs⟩ := h
  refine ⟨?_, by omega, by omega, fun j hj => ?_⟩
  · have h9 := hs (cnt - 1) (by omega)
    rw [show (nx + 6 - cnt + (cnt - 1)) % 6 = (nx + 5) % 6 from by omega] at h9
    exact h9
  · rw [show ((nx + 5) % 6 + 6 - (cnt - 1) + j) % 6 = (nx + 6 - cnt + j) % 6 from by omega]
    exact hs j (by omega)
theorem updS_at (S : Nat → StV) (k : Nat) (z : StV) : updS S k z k = z := by rw [updS, if_pos rfl]
/-- what a pop behind a push gives back -/
theorem pop_push {z : StV} {nx : Nat} {S : Nat → StV} (h : nx < 6) : updS S nx z (((nx + 1) % 6 + 5) % 6) = z := by
  rw [show ((nx + 1) % 6 + 5) % 6 = nx from by omega]
  exact updS_at S nx z
-- one part changed
theorem zI_v {z : StV} {v : Int32} (h : zI z) (hv : 0 ≤ v.toInt ∧ v.toInt ≤ 65535) : zI (v, z.2) := ⟨⟨hv, h.1.2⟩, h.2⟩
theorem zI_cap {z : StV} {r l : Int32} (h : zI z) (hr : 1 ≤ r.toInt ∧ r.toInt ≤ 16) (hl : 0 ≤ l.toInt ∧ l.toInt ≤ 64) : zI (z.1, r, l, z.2.2.2) := ⟨⟨h.1.1, hr, hl, h.1.2.2.2⟩, h.2⟩
theorem zI_off {z : StV} {o : Int32} (h : zI z) (ho : -64 ≤ o.toInt ∧ o.toInt ≤ 64) : zI (z.1, z.2.1, z.2.2.1, o, z.2.2.2.2) := ⟨h.1, ⟨ho, h.2.2⟩⟩
theorem zI_gl {z : StV} {g : Int32} (h : zI z) : zI (z.1, z.2.1, z.2.2.1, z.2.2.2.1, g, z.2.2.2.2.2) := h
theorem zI_w {z : StV} {n : Nat} {f : Nat → Int32} (h : zI z) (hn : 1 ≤ n ∧ n ≤ 12) (hr : ∀ k, k < n → 1 ≤ (f k).toInt ∧ (f k).toInt ≤ 2048) : zI (z.1, z.2.1, z.2.2.1, z.2.2.2.1, z.2.2.2.2.1, n, z.2.2.2.2.2.2.1, f, z.2.2.2.2.2.2.2.2) :=
  ⟨⟨h.1.1, h.1.2.1, h.1.2.2.1, hn, h.1.2.2.2.2.1, hr⟩, h.2⟩
theorem zI_b {z : StV} (h : zI z) : 1 ≤ z.2.2.2.2.2.1 ∧ z.2.2.2.2.2.1 ≤ 12 ∧ z.2.2.2.2.2.2.1 ≤ 8 := ⟨h.1.2.2.2.1.1, h.1.2.2.2.1.2, h.1.2.2.2.2.1⟩
theorem zI_f {z : StV} (h : zI z) : ∀ k, k < z.2.2.2.2.2.1 → 1 ≤ (z.2.2.2.2.2.2.2.1 k).toInt ∧ (z.2.2.2.2.2.2.2.1 k).toInt ≤ 2048 := h.1.2.2.2.2.2
theorem zI_hf {z : StV} (h : zI z) : ∀ k, k < z.2.2.2.2.2.1 → 0 ≤ (z.2.2.2.2.2.2.2.1 k).toInt ∧ (z.2.2.2.2.2.2.2.1 k).toInt ≤ 2048 := fun k hk => by
  have h9 := zI_f h k hk
  omega
theorem zI_wN {z : StV} (h : zI z) : ∀ k, k < z.2.2.2.2.2.1 → wN (z.2.2.2.2.2.2.2.1 k) ≤ 2048 := fun k hk => wN_le (n := 2048) (zI_f h k hk).2
-- comparisons of an int in its range with written numbers
theorem c_lt {x y : Int32} {b : Int} (hy : y.toInt = b) (h : b ≤ x.toInt) : ¬ x < y := by rw [i_lt, hy]; omega
theorem c_le {x y : Int32} {b : Int} (hy : y.toInt = b) (h : x.toInt ≤ b) : x ≤ y := by rw [i_le, hy]; omega
theorem c_nle {x y : Int32} {b : Int} (hy : y.toInt = b) (h : b < x.toInt) : ¬ x ≤ y := by rw [i_le, hy]; omega
theorem c_ngt {x y : Int32} {b : Int} (hy : y.toInt = b) (h : x.toInt ≤ b) : ¬ y < x := by rw [i_lt, hy]; omega
theorem c_nge {x y : Int32} {b : Int} (hy : y.toInt = b) (h : x.toInt < b) : ¬ y ≤ x := by rw [i_le, hy]; omega
-- the refused arguments
theorem bd_neg (n : Nat) : (-1 : Int32) - nI (n % 99) < 0 := by
  have e : (nI (n % 99)).toInt = (n % 99 : Nat) := nI_toInt (by omega)
  have e1 : (-1 : Int32).toInt = -1 := by decide
  have e0 : (0 : Int32).toInt = 0 := by decide
  rw [i_lt, i_sub (by rw [e, e1]; omega) (by rw [e, e1]; omega), e, e1, e0]
  omega
theorem bd_hi (n : Nat) : (65535 : Int32) < nI (65536 + n % 99) := by
  have e1 : (65535 : Int32).toInt = 65535 := by decide
  rw [i_lt, nI_toInt (by omega), e1]
  omega
theorem bd_no (n : Nat) {c : Nat} (h : c ≤ 12) : nI c ≤ nI (12 + n % 99) := by
  rw [i_le, nI_toInt (by omega), nI_toInt (by omega)]
  omega
theorem bd_no1 (n : Nat) {c d : Nat} (h : c ≤ 13) (hd : d = 1) : nI c ≤ nI (12 + n % 99 + d) := by
  rw [i_le, nI_toInt (by omega), nI_toInt (by omega)]
  omega
theorem bd_12 (n : Nat) : (12 : Int32) ≤ nI (12 + n % 99) := bd_no n (c := 12) (by omega)
theorem n_pos {n : Nat} (h1 : 1 ≤ n) (h2 : n ≤ 4096) : (0 : Int32) < nI n := by
  have e0 : (0 : Int32).toInt = 0 := by decide
  rw [i_lt, nI_toInt (by omega), e0]
  omega
theorem n_refl (x : Int32) : x ≤ x := by rw [i_le]; omega
theorem n_nlt (a b : Nat) (h : b ≤ a) (ha : a ≤ 2000000) : ¬ nI a < nI b := by
  rw [i_lt, nI_toInt (by omega), nI_toInt (by omega)]
  omega
theorem n_le (a b : Nat) (h : a ≤ b) (ha : b ≤ 2000000) : nI a ≤ nI b := by
  rw [i_le, nI_toInt (by omega), nI_toInt (by omega)]
  omega
theorem n_lt (a b : Nat) (h : a < b) (ha : b ≤ 2000000) : nI a < nI b := by
  rw [i_lt, nI_toInt (by omega), nI_toInt (by omega)]
  omega
-- sizes
def sizeN (n : Nat) : Nat := if n % 3 = 0 then 1 + n / 3 % 2048 else if n % 3 = 1 then 2 ^ (n / 3 % 10) else 1 + n / 3 % 60
theorem pw10 : ∀ j, j < 10 → 1 ≤ 2 ^ j ∧ 2 ^ j ≤ 512 := by decide
theorem sizeN_rng (n : Nat) : 1 ≤ sizeN n ∧ sizeN n ≤ 2048 := by
  unfold sizeN
  have h := pw10 (n / 3 % 10) (by omega)
  (repeat' split) <;> omega
theorem pw_shl {j : Nat} (h : j < 20) : (1 : Int32) <<< (nI j &&& 31) = nI (2 ^ j) := by
  have q : ∀ j, j < 20 → (1 : Int32) <<< (nI j &&& 31) = nI (2 ^ j) := by decide +kernel
  exact q j h
theorem sz_lo (m : Nat) : ¬ nI (sizeN m) < 1 := n_nlt (sizeN m) 1 (sizeN_rng m).1 (by have := (sizeN_rng m).2; omega)
theorem sz_hi (m : Nat) : nI (sizeN m) ≤ 2048 := n_le (sizeN m) 2048 (sizeN_rng m).2 (by omega)
theorem sz_rng (m : Nat) : 1 ≤ (nI (sizeN m)).toInt ∧ (nI (sizeN m)).toInt ≤ 2048 := by
  have h := sizeN_rng m
  rw [nI_toInt (by omega)]
  omega
-- what is seen
def seW (f : Nat → Int32) (h0 : Int64) : Nat → Int64
  | 0 => h0
  | k + 1 => 31 * seW f h0 k + (f k).toInt64
def seL (fv fk fc : Nat → Int32) (h0 : Int64) : Nat → Int64
  | 0 => h0
  | k + 1 => 31 * (31 * (31 * seL fv fk fc h0 k + (fc k).toInt64) + (fk k).toInt64) + (16 * fc k - fv k).toInt64
-- bits kept
theorem nI_or {a k : Nat} (ha : a < 2 ^ k) (hk : k < 20) : nI a ||| ((1 : Int32) <<< (nI k &&& 31)) = nI (a + 2 ^ k) := by
  rw [pw_shl hk]
  have hp : 2 ^ k < 2 ^ 20 := Nat.pow_lt_pow_right (by omega) hk
  have e : a + 2 ^ k = a ||| 2 ^ k := by
    have h9 := Nat.two_pow_add_eq_or_of_lt ha 1
    rw [Nat.mul_one] at h9
    rw [Nat.add_comm, h9, Nat.or_comm]
  rw [e]
  apply Int32.toBitVec_inj.mp
  rw [Int32.toBitVec_or]
  apply BitVec.eq_of_toNat_eq
  have t : ∀ n : Nat, n < 2 ^ 31 → (nI n).toBitVec.toNat = n := fun n hn => by
    have h9 := pk_tn (n := n) (by omega)
    exact h9
  have hl : a ||| 2 ^ k < 2 ^ 31 := Nat.or_lt_two_pow (by omega) (by omega)
  rw [BitVec.toNat_or, t a (by omega), t (2 ^ k) (by omega), t _ hl]
def kpB (f : Nat → Int32) (t : Nat → Bool) : Nat → Int32
  | 0 => 0
  | k + 1 => kpB f t k + (if t k = true then f k else 0)
def kpS (f : Nat → Int32) (m : Int32) : Nat → Int32
  | 0 => 0
  | k + 1 => kpS f m k + (if (m >>> (nI k &&& 31)) &&& 1 = 1 then f k else 0)
theorem kpB_cg {f : Nat → Int32} {t u : Nat → Bool} : ∀ n, (∀ k, k < n → t k = u k) → kpB f t n = kpB f u n
  | 0, _ => rfl
  | n + 1, h => by rw [kpB, kpB, kpB_cg n (fun k hk => h k (by omega)), h n (by omega)]
theorem kpS_B (f : Nat → Int32) (m : Int32) : ∀ n, n ≤ 12 → kpS f m n = kpB f (bt m) n
  | 0, _ => rfl
  | n + 1, h => by
    rw [kpS, kpB, kpS_B f m n (by omega), bt_read m (by omega)]
    cases bt m n
    · rw [if_neg (show ¬ (if false = true then (1 : Int32) else 0) = 1 from by decide), if_neg (by decide)]
    · rw [if_pos (show (if true = true then (1 : Int32) else 0) = 1 from by decide), if_pos rfl]
def sumN (f : Nat → Int32) : Nat → Nat
  | 0 => 0
  | k + 1 => sumN f k + wN (f k)
theorem sumN_le {f : Nat → Int32} : ∀ n, (∀ k, k < n → wN (f k) ≤ 2048) → sumN f n ≤ 2048 * n
  | 0, _ => Nat.le_refl 0
  | n + 1, h => by
    have h1 := sumN_le n (fun k hk => h k (by omega))
    have h2 := h n (by omega)
    rw [sumN]
    omega
theorem wN_1 {x : Int32} (h : 1 ≤ x.toInt) : 1 ≤ wN x := wN_ge h
theorem sumN_st {f : Nat → Int32} {k : Nat} (h : 1 ≤ (f k).toInt) : nI (sumN f k) + f k = nI (sumN f (k + 1)) := by
  rw [sumN, ← nI_add, nI_wN (by omega)]
theorem sumW_N {f : Nat → Int32} : ∀ n, (∀ k, k < n → 1 ≤ (f k).toInt) → sumW f n = nI (sumN f n)
  | 0, _ => rfl
  | n + 1, h => by rw [sumW, sumW_N n (fun k hk => h k (by omega)), sumN_st (h n (by omega))]
theorem wgT_or (v kp cd w leak off gl : Int32) (k : Nat) : wgT (v, kp, cd) w leak off gl k = (hTick v leak, kp, cd) ∨ wgT (v, kp, cd) w leak off gl k = (hTick v leak, kp ||| ((1 : Int32) <<< (nI k &&& 31)), cd + w) := by
  unfold wgT
  by_cases h : (if 16 * ((v, kp, cd).2.2 + w) ≤ hTick (v, kp, cd).1 leak + off then (1 : Int32) else 0) = hBit gl (nI k)
  · exact Or.inl (if_pos h)
  · exact Or.inr (if_neg h)
/-- what a weighing gives -/
theorem wg_inv {f : Nat → Int32} (leak off gl v0 : Int32) : ∀ n, n ≤ 12 → (∀ k, k < n → 1 ≤ (f k).toInt ∧ (f k).toInt ≤ 2048) →
    ∃ m c : Nat, m < 2 ^ n ∧ (wgS f leak off gl v0 n).2.1 = nI m ∧ (wgS f leak off gl v0 n).2.2 = nI c ∧ c ≤ sumN f n ∧ (m = 0 ↔ c = 0) ∧ (∀ j, j < 12 → n ≤ j → bt (wgS f leak off gl v0 n).2.1 j = false) ∧ (wgS f leak off gl v0 n).2.2 = kpB f (bt (wgS f leak off gl v0 n).2.1) n
  | 0, _, _ => ⟨0, 0, by decide, rfl, rfl, Nat.le_refl 0, Iff.rfl, fun j _ _ => b_0 j, rfl⟩
  | n + 1, hn, hf => by
    obtain ⟨m, c, h1, h2, h3, h4, h5, h6, h7⟩ := wg_inv leak off gl v0 n (by omega) (fun k hk => hf k (by omega))
    have hfn := hf n (by omega)
    have w1 := wN_1 hfn.1
    have hp : 2 ^ (n + 1) = 2 ^ n + 2 ^ n := by rw [Nat.pow_succ]; omega
    have hb := h6 n (by omega) (Nat.le_refl n)
    rw [wgS]
    generalize wgS f leak off gl v0 n = w at h2 h3 h6 h7 hb ⊢
    obtain ⟨v, kp, cd⟩ := w
    have h2 : kp = nI m := h2
    have h3 : cd = nI c := h3
    have h6 : ∀ j, j < 12 → n ≤ j → bt kp j = false := h6
    have h7 : cd = kpB f (bt kp) n := h7
    have hb : bt kp n = false := hb
    rcases wgT_or v kp cd (f n) leak off gl n with e | e <;> rw [e]
    · refine ⟨m, c, by omega, h2, h3, by rw [sumN]; omega, h5, fun j hj hj2 => h6 j hj (by omega), ?_⟩
      show cd = kpB f (bt kp) (n + 1)
      rw [kpB, hb, if_neg (by decide), Int32.add_zero]
      exact h7
    · refine ⟨m + 2 ^ n, c + wN (f n), by omega, ?_, ?_, by rw [sumN]; omega, ⟨fun h => ?_, fun h => ?_⟩, fun j hj hj2 => ?_, ?_⟩
      · show kp ||| ((1 : Int32) <<< (nI n &&& 31)) = nI (m + 2 ^ n)
        rw [h2, nI_or h1 (by omega)]
      · show cd + f n = nI (c + wN (f n))
        rw [h3, ← nI_add, nI_wN (by omega)]
      · have := Nat.two_pow_pos n
        omega
      · omega
      · show bt (kp ||| ((1 : Int32) <<< (nI n &&& 31))) j = false
        rw [bt_set kp hj (by omega), if_neg (by omega)]
        exact h6 j hj (by omega)
      · show cd + f n = kpB f (bt (kp ||| ((1 : Int32) <<< (nI n &&& 31)))) (n + 1)
        rw [kpB, bt_set kp (by omega) (by omega), if_pos rfl, if_pos rfl, h7]
        congr 1
        refine kpB_cg n (fun k hk => ?_)
        rw [bt_set kp (by omega) (by omega), if_neg (by omega)]
theorem p12 {n : Nat} (h : n ≤ 12) : 2 ^ n ≤ 4096 := Nat.pow_le_pow_right (n := 2) (by omega) h
theorem wg_all {f : Nat → Int32} {leak off gl v0 : Int32} {n : Nat} (hn : n ≤ 12) (hf : ∀ k, k < n → 1 ≤ (f k).toInt ∧ (f k).toInt ≤ 2048) :
    (0 ≤ (wgS f leak off gl v0 n).2.1.toInt ∧ (wgS f leak off gl v0 n).2.1.toInt ≤ 4095) ∧ (0 ≤ (wgS f leak off gl v0 n).2.2.toInt ∧ (wgS f leak off gl v0 n).2.2.toInt ≤ 24576) ∧ ((wgS f leak off gl v0 n).2.2 = 0 ↔ (wgS f leak off gl v0 n).2.1 = 0) ∧ (wgS f leak off gl v0 n).2.2 = kpS f (wgS f leak off gl v0 n).2.1 n ∧ ∃ c, c ≤ sumN f n ∧ (wgS f leak off gl v0 n).2.2 = nI c := by
  obtain ⟨m, c, h1, h2, h3, h4, h5, h6, h7⟩ := wg_inv leak off gl v0 n hn hf
  have hp := p12 hn
  have hs := sumN_le n (fun k hk => wN_le (n := 2048) (hf k hk).2)
  have e1 : (nI m).toInt = m := nI_toInt (by omega)
  have e2 : (nI c).toInt = c := nI_toInt (by omega)
  have z0 : (0 : Int32).toInt = 0 := by decide
  refine ⟨by rw [h2, e1]; omega, by rw [h3, e2]; omega, ?_, by rw [kpS_B f _ n hn]; exact h7, c, h4, h3⟩
  rw [h2, h3, i_eq, i_eq, e1, e2, z0]
  omega
-- what is held
theorem hTick_le {v leak : Int32} (h : 0 ≤ v.toInt ∧ v.toInt ≤ 65535) (hl : 0 ≤ leak.toInt ∧ leak.toInt ≤ 64) : (hTick v leak).toInt ≤ v.toInt := by
  have m1 : 0 ≤ v.toInt * leak.toInt := Int.mul_nonneg h.1 hl.1
  have m2 : v.toInt * leak.toInt ≤ v.toInt * 64 := Int.mul_le_mul_of_nonneg_left hl.2 h.1
  have e1 : (v * leak).toInt = v.toInt * leak.toInt := i_mul (by omega) (by omega)
  have e2 : (v * leak / 4096).toInt = (v.toInt * leak.toInt).tdiv 4096 := by rw [i_div4096, e1]
  have t := tdvN _ m1
  rw [hTick, i_sub (by rw [e2]; omega) (by rw [e2]; omega), e2]
  omega
theorem hItr_le {leak : Int32} (hl : 0 ≤ leak.toInt ∧ leak.toInt ≤ 64) : ∀ (k : Nat) {v : Int32}, 0 ≤ v.toInt ∧ v.toInt ≤ 65535 → (hItr leak k v).toInt ≤ v.toInt
  | 0, _, _ => Int.le_refl _
  | k + 1, _, h => Int.le_trans (hTick_le (hItr_rng hl k h) hl) (hItr_le hl k h)
theorem hItr_in (leak : Int32) : ∀ (k : Nat) (v : Int32), hItr leak k (hTick v leak) = hItr leak (k + 1) v
  | 0, _ => rfl
  | k + 1, v => by
    show hTick (hItr leak k (hTick v leak)) leak = hTick (hItr leak (k + 1) v) leak
    rw [hItr_in leak k v]
theorem tc_all {f : Nat → Int32} {n : Nat} {leak c0 : Int32} : ∀ (m t : Nat) (h : Int32), (tcGo f n leak c0 m t h = -1 ∧ ∀ j, 1 ≤ j → j ≤ m → (wgS f 0 0 0 (hItr leak j h) n).2.2 = c0) ∨ ∃ d, d < m ∧ tcGo f n leak c0 m t h = nI (t + d) ∧ ∀ j, 1 ≤ j → j ≤ d → (wgS f 0 0 0 (hItr leak j h) n).2.2 = c0
  | 0, t, h => Or.inl ⟨rfl, fun j h1 h2 => by omega⟩
  | m + 1, t, h => by
    rw [tcGo]
    by_cases q : (wgS f 0 0 0 (hTick h leak) n).2.2 = c0
    · rw [if_pos q]
      have st : ∀ d, (∀ j, 1 ≤ j → j ≤ d → (wgS f 0 0 0 (hItr leak j (hTick h leak)) n).2.2 = c0) → ∀ j, 1 ≤ j → j ≤ d + 1 → (wgS f 0 0 0 (hItr leak j h) n).2.2 = c0 := by
        intro d hd j h1 h2
        by_cases e : j = 1
        · subst e
          exact q
        · have h9 := hd (j - 1) (by omega) (by omega)
          rw [hItr_in, show j - 1 + 1 = j from by omega] at h9
          exact h9
      rcases tc_all m (t + 1) (hTick h leak) with ⟨a, b⟩ | ⟨d, a, b, c⟩
      · exact Or.inl ⟨a, st m b⟩
      · exact Or.inr ⟨d + 1, by omega, by rw [b, show t + 1 + d = t + (d + 1) from by omega], st d c⟩
    · rw [if_neg q]
      exact Or.inr ⟨0, by omega, rfl, fun j h1 h2 => by omega⟩
theorem tc_same {f : Nat → Int32} {n t : Nat} {leak c0 v : Int32} (h1 : 1 ≤ t) (h2 : t ≤ 30) (h : tcGo f n leak c0 200 1 v = -1 ∨ ¬ tcGo f n leak c0 200 1 v ≤ nI t) : (wgS f 0 0 0 (hItr leak t v) n).2.2 = c0 := by
  rcases tc_all (f := f) (n := n) (leak := leak) (c0 := c0) 200 1 v with ⟨-, b⟩ | ⟨d, a, b, c⟩
  · exact b t h1 (by omega)
  · refine c t h1 ?_
    rcases h with h | h
    · rw [b, i_eq, nI_toInt (by omega)] at h
      have e1 : (-1 : Int32).toInt = -1 := by decide
      omega
    · rw [b, i_le, nI_toInt (by omega), nI_toInt (by omega)] at h
      omega
-- what is sampled
theorem sTick_side {v inp rate : Int32} (h : 0 ≤ v.toInt ∧ v.toInt ≤ 65535) (hi : 0 ≤ inp.toInt ∧ inp.toInt ≤ 65535) (hr : 1 ≤ rate.toInt ∧ rate.toInt ≤ 16) : (v.toInt ≤ inp.toInt → v.toInt ≤ (sTick v inp rate).toInt ∧ (sTick v inp rate).toInt ≤ inp.toInt) ∧ (inp.toInt ≤ v.toInt → inp.toInt ≤ (sTick v inp rate).toInt ∧ (sTick v inp rate).toInt ≤ v.toInt) := by
  have e1 : (inp - v).toInt = inp.toInt - v.toInt := i_sub (by omega) (by omega)
  have b : -1048560 ≤ (inp.toInt - v.toInt) * rate.toInt ∧ (inp.toInt - v.toInt) * rate.toInt ≤ 1048560 ∧ (0 ≤ inp.toInt - v.toInt → 0 ≤ (inp.toInt - v.toInt) * rate.toInt ∧ (inp.toInt - v.toInt) * rate.toInt ≤ (inp.toInt - v.toInt) * 16) ∧ (inp.toInt - v.toInt ≤ 0 → (inp.toInt - v.toInt) * rate.toInt ≤ 0 ∧ (inp.toInt - v.toInt) * 16 ≤ (inp.toInt - v.toInt) * rate.toInt) := by
    by_cases hd : 0 ≤ inp.toInt - v.toInt
    · have m1 : 0 ≤ (inp.toInt - v.toInt) * rate.toInt := Int.mul_nonneg hd (by omega)
      have m2 : (inp.toInt - v.toInt) * rate.toInt ≤ (inp.toInt - v.toInt) * 16 := Int.mul_le_mul_of_nonneg_left hr.2 hd
      refine ⟨by omega, by omega, fun _ => ⟨m1, m2⟩, fun q => ?_⟩
      have z : inp.toInt - v.toInt = 0 := by omega
      rw [z]
      omega
    · have m1 : (inp.toInt - v.toInt) * rate.toInt ≤ 0 := Int.mul_nonpos_of_nonpos_of_nonneg (by omega) (by omega)
      have m2 : (inp.toInt - v.toInt) * 16 ≤ (inp.toInt - v.toInt) * rate.toInt := Int.mul_le_mul_of_nonpos_left (by omega) hr.2
      exact ⟨by omega, by omega, fun q => absurd q hd, fun _ => ⟨m1, m2⟩⟩
  have e2 : ((inp - v) * rate).toInt = (inp.toInt - v.toInt) * rate.toInt := by
    rw [i_mul (by rw [e1]; omega) (by rw [e1]; omega), e1]
  have e3 : ((inp - v) * rate / 16).toInt = ((inp.toInt - v.toInt) * rate.toInt).tdiv 16 := by rw [i_div16, e2]
  have t := tdv ((inp.toInt - v.toInt) * rate.toInt)
  rw [sTick]
  generalize (inp - v) * rate / 16 = q at e3 ⊢
  generalize (inp.toInt - v.toInt) * rate.toInt = P at b e3 t
  have c1 : (1 : Int32).toInt = 1 := by decide
  have c2 : (-1 : Int32).toInt = -1 := by decide
  have c0 : (0 : Int32).toInt = 0 := by decide
  by_cases hq : q = 0
  · rw [if_pos hq]
    by_cases h1 : v < inp
    · rw [if_pos h1]
      rw [i_lt] at h1
      rw [i_add (by rw [c1]; omega) (by rw [c1]; omega), c1]
      omega
    · rw [if_neg h1]
      by_cases h2 : inp < v
      · rw [if_pos h2]
        rw [i_lt] at h2
        rw [i_add (by rw [c2]; omega) (by rw [c2]; omega), c2]
        omega
      · rw [if_neg h2]
        omega
  · rw [if_neg hq]
    rw [i_add (by omega) (by omega)]
    omega
theorem sItr_side {inp rate : Int32} (hi : 0 ≤ inp.toInt ∧ inp.toInt ≤ 65535) (hr : 1 ≤ rate.toInt ∧ rate.toInt ≤ 16) : ∀ (k : Nat) {v : Int32}, 0 ≤ v.toInt ∧ v.toInt ≤ 65535 → (v.toInt ≤ inp.toInt → v.toInt ≤ (sItr inp rate k v).toInt ∧ (sItr inp rate k v).toInt ≤ inp.toInt) ∧ (inp.toInt ≤ v.toInt → inp.toInt ≤ (sItr inp rate k v).toInt ∧ (sItr inp rate k v).toInt ≤ v.toInt)
  | 0, _, _ => ⟨fun h => ⟨Int.le_refl _, h⟩, fun h => ⟨h, Int.le_refl _⟩⟩
  | k + 1, v, h => by
    have ih := sItr_side hi hr k h
    have st := sTick_side (sItr_rng hi hr k h) hi hr
    rw [sItr]
    omega
theorem sItr_add (inp rate : Int32) (a : Nat) (v : Int32) : ∀ b, sItr inp rate (a + b) v = sItr inp rate b (sItr inp rate a v)
  | 0 => rfl
  | b + 1 => by
    show sTick (sItr inp rate (a + b) v) inp rate = sTick (sItr inp rate b (sItr inp rate a v)) inp rate
    rw [sItr_add inp rate a v b]
theorem ts_all {inp rate : Int32} : ∀ (m t : Nat) (h : Int32), ∃ d, d ≤ m ∧ tsGo inp rate m t h = t + d ∧ (d < m → (if 0 ≤ inp - sItr inp rate d h then inp - sItr inp rate d h else 0 - (inp - sItr inp rate d h)) < 16)
  | 0, t, h => ⟨0, Nat.le_refl 0, rfl, fun q => absurd q (Nat.not_lt_zero _)⟩
  | m + 1, t, h => by
    rw [tsGo]
    by_cases q : (if 0 ≤ inp - h then inp - h else 0 - (inp - h)) < 16
    · rw [if_pos q]
      exact ⟨0, by omega, rfl, fun _ => q⟩
    · rw [if_neg q]
      obtain ⟨d, a, b, c⟩ := ts_all m (t + 1) (sTick h inp rate)
      refine ⟨d + 1, by omega, by rw [b]; omega, fun hd => ?_⟩
      have e : sItr inp rate (d + 1) h = sItr inp rate d (sTick h inp rate) := by
        rw [Nat.add_comm, sItr_add]
        rfl
      rw [e]
      exact c (by omega)
theorem ts_le (inp rate h : Int32) : tsGo inp rate 65536 0 h ≤ 65536 := by
  obtain ⟨d, a, b, -⟩ := ts_all (inp := inp) (rate := rate) 65536 0 h
  omega
theorem ts_near {inp rate v : Int32} {n : Nat} (hv : 0 ≤ v.toInt ∧ v.toInt ≤ 65535) (hi : 0 ≤ inp.toInt ∧ inp.toInt ≤ 65535) (hr : 1 ≤ rate.toInt ∧ rate.toInt ≤ 16) (hn : n ≤ 99) (h : tsGo inp rate 65536 0 v ≤ n) : ¬ 16 ≤ sItr inp rate n v - inp ∧ ¬ 16 ≤ inp - sItr inp rate n v := by
  obtain ⟨d, a, b, c⟩ := ts_all (inp := inp) (rate := rate) 65536 0 v
  have c := c (by omega)
  have rd := sItr_rng hi hr d hv
  have rn := sItr_rng hi hr n hv
  have sd := sItr_side hi hr (n - d) rd
  have en : sItr inp rate n v = sItr inp rate (n - d) (sItr inp rate d v) := by
    rw [← sItr_add, show d + (n - d) = n from by omega]
  rw [← en] at sd
  generalize sItr inp rate n v = y at *
  generalize sItr inp rate d v = x at *
  have e0 : (0 : Int32).toInt = 0 := by decide
  have e16 : (16 : Int32).toInt = 16 := by decide
  have d1 : (inp - x).toInt = inp.toInt - x.toInt := i_sub (by omega) (by omega)
  have d2 : (inp - y).toInt = inp.toInt - y.toInt := i_sub (by omega) (by omega)
  have d3 : (y - inp).toInt = y.toInt - inp.toInt := i_sub (by omega) (by omega)
  have d4 : (0 - (inp - x)).toInt = 0 - (inp.toInt - x.toInt) := by
    rw [i_sub (by rw [d1, e0]; omega) (by rw [d1, e0]; omega), d1, e0]
  rw [i_le, i_le, d2, d3, e16]
  by_cases q : 0 ≤ inp - x
  · rw [if_pos q, i_lt, d1, e16] at c
    rw [i_le, d1, e0] at q
    omega
  · rw [if_neg q, i_lt, d4, e16] at c
    rw [i_le, d1, e0] at q
    omega
-- a glitch set
theorem gl_set (g : Int32) {i : Nat} (hi : i < 12) : hBit (g ||| ((1 : Int32) <<< (nI i &&& 31))) (nI i) = 1 := by
  rw [hBit, bt_read _ hi, bt_set g hi hi, if_pos rfl, if_pos rfl, if_neg (by decide)]
theorem hB_ge (g b : Int32) : ¬ hBit g b < 0 := by
  unfold hBit
  split <;> decide
-- the sums
def stB (p : Nat → Bool) (a : Nat) : Nat → Bool := fun v => p v || (decide (a ≤ v) && p (v - a))
theorem sumB_st (f : Nat → Int32) (n : Nat) : sumB f (n + 1) = stB (sumB f n) (wN (f n)) := rfl
theorem stB_comm (p : Nat → Bool) (a b : Nat) : stB (stB p a) b = stB (stB p b) a := by
  funext v
  have e : v - b - a = v - a - b := by omega
  unfold stB
  rw [e]
  by_cases h1 : a ≤ v
  · by_cases h2 : b ≤ v
    · by_cases h3 : a ≤ v - b
      · have h4 : b ≤ v - a := by omega
        simp only [h1, h2, h3, h4, decide_true, Bool.true_and]
        cases p v <;> cases p (v - a) <;> cases p (v - b) <;> cases p (v - a - b) <;> rfl
      · have h4 : ¬ b ≤ v - a := by omega
        simp only [h1, h2, h3, h4, decide_true, decide_false, Bool.true_and, Bool.false_and, Bool.or_false]
        cases p v <;> cases p (v - a) <;> cases p (v - b) <;> rfl
    · have h4 : ¬ b ≤ v - a := by omega
      simp only [h1, h2, h4, decide_true, decide_false, Bool.true_and, Bool.false_and, Bool.or_false]
  · by_cases h2 : b ≤ v
    · have h3 : ¬ a ≤ v - b := by omega
      simp only [h1, h2, h3, decide_true, decide_false, Bool.true_and, Bool.false_and, Bool.or_false]
    · simp only [h1, h2, decide_false, Bool.false_and, Bool.or_false]
theorem sumB_0 (f : Nat → Int32) : ∀ n, sumB f n 0 = true
  | 0 => rfl
  | n + 1 => by
    rw [sumB_s]
    exact Or.inl (sumB_0 f n)
theorem sumB_le {f : Nat → Int32} : ∀ (n v : Nat), sumB f n v = true → v ≤ sumN f n
  | 0, v, h => by
    have : v = 0 := by simpa [sumB] using h
    omega
  | n + 1, v, h => by
    rw [sumB_s] at h
    rw [sumN]
    rcases h with h | ⟨h2, h3⟩
    · have := sumB_le n v h
      omega
    · have := sumB_le n _ h3
      omega
theorem cntB_le (p : Nat → Bool) : ∀ n, cntB p n ≤ n
  | 0 => Nat.le_refl 0
  | n + 1 => by
    have := cntB_le p n
    rw [cntB]
    split <;> omega
theorem cntB_mono (p : Nat → Bool) : ∀ (d n : Nat), cntB p n ≤ cntB p (n + d)
  | 0, _ => Nat.le_refl _
  | d + 1, n => by
    have := cntB_mono p d n
    rw [← Nat.add_assoc, cntB]
    omega
theorem cntB_or (p q : Nat → Bool) : ∀ n, cntB (fun v => p v || q v) n ≤ cntB p n + cntB q n
  | 0 => Nat.le_refl 0
  | n + 1 => by
    have := cntB_or p q n
    rw [cntB, cntB, cntB]
    cases p n <;> cases q n <;> simp only [Bool.or_true, Bool.or_false, Bool.true_or, Bool.false_eq_true, ↓reduceIte] <;> omega
theorem cntB_sh (p : Nat → Bool) (a : Nat) : ∀ n, cntB (fun v => decide (a ≤ v) && p (v - a)) n = cntB p (n - a)
  | 0 => by
    rw [Nat.zero_sub]
    rfl
  | n + 1 => by
    rw [cntB, cntB_sh p a n]
    by_cases h : a ≤ n
    · rw [show n + 1 - a = (n - a) + 1 from by omega, cntB, decide_eq_true h, Bool.true_and]
    · rw [show n + 1 - a = 0 from by omega, show n - a = 0 from by omega, decide_eq_false h, Bool.false_and]
      rfl
theorem cnt_pow (f : Nat → Int32) (N : Nat) : ∀ n, cntB (sumB f n) N ≤ 2 ^ n
  | 0 => by
    have h : ∀ m, cntB (sumB f 0) m ≤ 1 ∧ (m = 0 → cntB (sumB f 0) m = 0) := by
      intro m
      induction m with
      | zero => exact ⟨Nat.zero_le _, fun _ => rfl⟩
      | succ m ih =>
        refine ⟨?_, fun q => absurd q (by omega)⟩
        rw [cntB]
        by_cases e : m = 0
        · rw [ih.2 e]
          split <;> omega
        · have : ¬ sumB f 0 m = true := by
            rw [sumB]
            simpa using e
          rw [if_neg this]
          exact ih.1
    rw [Nat.pow_zero]
    exact (h N).1
  | n + 1 => by
    have ih := cnt_pow f N n
    have h1 := cntB_or (sumB f n) (fun v => decide (wN (f n) ≤ v) && sumB f n (v - wN (f n))) N
    have h2 := cntB_sh (sumB f n) (wN (f n)) N
    have h3 := cntB_mono (sumB f n) (N - (N - wN (f n))) (N - wN (f n))
    rw [show N - wN (f n) + (N - (N - wN (f n))) = N from by omega] at h3
    have e : sumB f (n + 1) = fun v => sumB f n v || (decide (wN (f n) ≤ v) && sumB f n (v - wN (f n))) := rfl
    rw [e, Nat.pow_succ]
    omega
theorem cnt_bd {p : Nat → Bool} {M : Nat} (h : ∀ v, p v = true → v ≤ M) : ∀ N, cntB p N ≤ M + 1
  | 0 => Nat.zero_le _
  | N + 1 => by
    have ih := cnt_bd h N
    by_cases q : N ≤ M
    · have := cntB_le p (N + 1)
      omega
    · rw [cntB, if_neg (fun e => q (h N e))]
      exact ih
theorem cnt_full {p : Nat → Bool} {L : Nat} (h : ∀ v, v < L → p v = true) : ∀ N, N ≤ L → cntB p N = N
  | 0, _ => rfl
  | N + 1, hN => by rw [cntB, cnt_full h N (by omega), if_pos (h N (by omega))]
theorem lmS_all {p : Nat → Bool} : ∀ (m k : Nat), k ≤ lmS p m k ∧ lmS p m k ≤ k + m ∧ ∀ v, k ≤ v → v < lmS p m k → p v = true
  | 0, k => ⟨Nat.le_refl _, Nat.le_refl _, fun v h1 h2 => by
      have h2 : v < k := h2
      omega⟩
  | m + 1, k => by
    rw [lmS]
    by_cases q : p k = true
    · rw [if_pos q]
      obtain ⟨a, b, c⟩ := lmS_all (p := p) m (k + 1)
      refine ⟨by omega, by omega, fun v h1 h2 => ?_⟩
      by_cases e : v = k
      · rw [e]
        exact q
      · exact c v (by omega) h2
    · rw [if_neg q]
      exact ⟨by omega, by omega, fun v h1 h2 => by omega⟩
/-- the least number that is no sum, and how many are -/
theorem lm_facts (f : Nat → Int32) (n : Nat) : 1 ≤ lmS (sumB f n) 4095 1 ∧ lmS (sumB f n) 4095 1 ≤ 4096 ∧ lmS (sumB f n) 4095 1 ≤ sumN f n + 1 ∧ lmS (sumB f n) 4095 1 ≤ cntB (sumB f n) 4096 ∧ cntB (sumB f n) 4096 ≤ 4096 ∧ cntB (sumB f n) 4096 ≤ sumN f n + 1 ∧ cntB (sumB f n) 4096 ≤ 2 ^ n := by
  obtain ⟨a, b, c⟩ := lmS_all (p := sumB f n) 4095 1
  have c0 : ∀ v, v < lmS (sumB f n) 4095 1 → sumB f n v = true := fun v hv => by
    by_cases e : v = 0
    · rw [e]
      exact sumB_0 f n
    · exact c v (by omega) hv
  refine ⟨a, by omega, ?_, ?_, cntB_le _ _, cnt_bd (fun v hv => sumB_le n v hv) 4096, cnt_pow f 4096 n⟩
  · by_cases q : lmS (sumB f n) 4095 1 ≤ sumN f n + 1
    · exact q
    · have := sumB_le n _ (c0 (sumN f n + 1) (by omega))
      omega
  · have h1 := cnt_full c0 (lmS (sumB f n) 4095 1) (Nat.le_refl _)
    have h2 := cntB_mono (sumB f n) (4096 - lmS (sumB f n) 4095 1) (lmS (sumB f n) 4095 1)
    rw [show lmS (sumB f n) 4095 1 + (4096 - lmS (sumB f n) 4095 1) = 4096 from by omega] at h2
    omega
-- the sorted row
theorem sumB_ins : ∀ (J : Nat) (g : Nat → Int32) (x : Int32), sumB (insG g x J) (J + 1) = stB (sumB g J) (wN x)
  | 0, g, x => by
    have e : insG g x 0 0 = x := by rw [insG, upd, if_pos rfl]
    rw [sumB_st, e]
    rfl
  | J + 1, g, x => by
    by_cases h : g J < x
    · have e : insG g x (J + 1) = insG (upd g (J + 1) (g J)) x J := by rw [insG, if_pos h]
      obtain ⟨p, h1, -, -, h4⟩ := insG_at J (upd g (J + 1) (g J)) x
      have e2 : insG (upd g (J + 1) (g J)) x J (J + 1) = g J := by rw [h4, if_neg (by omega), if_neg (by omega), if_neg (by omega), upd, if_pos rfl]
      rw [e, sumB_st, sumB_ins J, e2, sumB_cg (g := g) J (fun k hk => by rw [upd, if_neg (by omega)]), stB_comm, ← sumB_st]
    · rw [insG, if_neg h, sumB_st, upd, if_pos rfl, sumB_cg (g := g) (J + 1) (fun k hk => by rw [upd, if_neg (by omega)])]
theorem sumB_srt (f : Nat → Int32) : ∀ m, sumB (srtG f m) (m + 1) = sumB f (m + 1)
  | 0 => rfl
  | m + 1 => by rw [srtG, sumB_ins, sumB_srt f m, srtG_hi f m (m + 1) (by omega), sumB_st f (m + 1)]
theorem sumW_ins : ∀ (J : Nat) (g : Nat → Int32) (x : Int32), sumW (insG g x J) (J + 1) = sumW g J + x
  | 0, g, x => by
    have e : insG g x 0 0 = x := by rw [insG, upd, if_pos rfl]
    show 0 + insG g x 0 0 = 0 + x
    rw [e]
  | J + 1, g, x => by
    by_cases h : g J < x
    · have e : insG g x (J + 1) = insG (upd g (J + 1) (g J)) x J := by rw [insG, if_pos h]
      obtain ⟨p, h1, -, -, h4⟩ := insG_at J (upd g (J + 1) (g J)) x
      have e2 : insG (upd g (J + 1) (g J)) x J (J + 1) = g J := by rw [h4, if_neg (by omega), if_neg (by omega), if_neg (by omega), upd, if_pos rfl]
      rw [e, sumW, sumW_ins J, e2, sumW_cg (g := g) J (fun k hk => by rw [upd, if_neg (by omega)]), sumW.eq_2 g J, Int32.add_assoc, Int32.add_comm x, ← Int32.add_assoc]
    · rw [insG, if_neg h, sumW, upd, if_pos rfl, sumW_cg (g := g) (J + 1) (fun k hk => by rw [upd, if_neg (by omega)])]
theorem sumW_srt (f : Nat → Int32) : ∀ m, sumW (srtG f m) (m + 1) = sumW f (m + 1)
  | 0 => rfl
  | m + 1 => by rw [srtG, sumW_ins, sumW_srt f m, srtG_hi f m (m + 1) (by omega), sumW.eq_2 f (m + 1)]
/-- what a sort leaves as it was -/
theorem srt_same {f : Nat → Int32} {n : Nat} (hn : 1 ≤ n) (hf : ∀ k, k < n → 1 ≤ (f k).toInt ∧ (f k).toInt ≤ 2048) : sumW (srtG f (n - 1)) n = sumW f n ∧ cntL (fillG (srtG f (n - 1)) n) 64 = cntL (fillG f n) 64 ∧ lmGo (fillG (srtG f (n - 1)) n) 4095 1 = lmGo (fillG f n) 4095 1 := by
  have hg := srt_rg hn hf
  have e1 := sumW_srt f (n - 1)
  have e2 := sumB_srt f (n - 1)
  rw [show n - 1 + 1 = n from by omega] at e1 e2
  have w1 : ∀ k, k < n → wN (f k) ≤ 2048 := fun k hk => wN_le (n := 2048) (hf k hk).2
  have w2 : ∀ k, k < n → wN (srtG f (n - 1) k) ≤ 2048 := fun k hk => wN_le (n := 2048) (hg k hk).2
  exact ⟨e1, by rw [sums_eq w1, sums_eq w2, e2], by rw [least_eq w1, least_eq w2, e2]⟩
theorem misp_le (f : Nat → Int32) (n : Nat) : ∀ m, misp f n m ≤ m
  | 0 => Nat.le_refl 0
  | m + 1 => by
    have := misp_le f n m
    rw [misp]
    split <;> omega
theorem rnk_tie (f : Nat → Int32) {i k : Nat} (h : f i = f k) (hik : i < k) : ∀ n, rnk f i n + (if i < n then 1 else 0) ≤ rnk f k n
  | 0 => by
    rw [if_neg (by omega)]
    exact Nat.le_refl _
  | n + 1 => by
    have ih := rnk_tie f h hik n
    rw [rnk, rnk]
    by_cases q : f i < f n ∨ (f n = f i ∧ n < i)
    · have t : f k < f n ∨ (f n = f k ∧ n < k) := by
        rcases q with a | ⟨a, b⟩
        · exact Or.inl (by rw [← h]; exact a)
        · exact Or.inr ⟨by rw [← h]; exact a, by omega⟩
      rw [if_pos q, if_pos t]
      by_cases e : n = i
      · subst e
        rcases q with a | ⟨-, a⟩
        · rw [i_lt] at a
          omega
        · omega
      · by_cases z : i < n
        · rw [if_pos z] at ih
          rw [if_pos (by omega)]
          omega
        · rw [if_neg z] at ih
          rw [if_neg (by omega)]
          omega
    · rw [if_neg q]
      by_cases e : n = i
      · subst e
        rw [if_neg (by omega)] at ih
        rw [if_pos (by omega), if_pos (Or.inr ⟨h, hik⟩)]
        omega
      · by_cases z : i < n
        · rw [if_pos z] at ih
          rw [if_pos (by omega)]
          omega
        · rw [if_neg z] at ih
          rw [if_neg (by omega)]
          omega
theorem rnk_inj (f : Nat → Int32) {n i k : Nat} (hi : i < n) (hk : k < n) (h : rnk f i n = rnk f k n) : i = k := by
  by_cases a : f i < f k
  · have := rnk_mono f a n
    rw [if_pos hk] at this
    omega
  · by_cases b : f k < f i
    · have := rnk_mono f b n
      rw [if_pos hi] at this
      omega
    · have e : f i = f k := by
        rw [i_lt] at a b
        rw [i_eq]
        omega
      rcases Nat.lt_trichotomy i k with q | q | q
      · have := rnk_tie f e q n
        rw [if_pos hi] at this
        omega
      · exact q
      · have := rnk_tie f e.symm q n
        rw [if_pos hk] at this
        omega
theorem misp_0 (f : Nat → Int32) (n : Nat) : ∀ m, misp f n m = 0 → ∀ j, j < m → rnk f j n = j
  | 0, _, j, h => absurd h (Nat.not_lt_zero _)
  | m + 1, h, j, hj => by
    rw [misp] at h
    by_cases e : rnk f m n = m
    · rw [if_pos e] at h
      by_cases q : j = m
      · rw [q]
        exact e
      · exact misp_0 f n m (by omega) j (by omega)
    · rw [if_neg e] at h
      omega
theorem misp_1 (f : Nat → Int32) (n : Nat) : ∀ m, misp f n m = 1 → ∃ i, i < m ∧ ¬ rnk f i n = i ∧ ∀ j, j < m → ¬ j = i → rnk f j n = j
  | 0, h => by
    have h : (0 : Nat) = 1 := h
    omega
  | m + 1, h => by
    rw [misp] at h
    by_cases e : rnk f m n = m
    · rw [if_pos e] at h
      obtain ⟨i, a, b, c⟩ := misp_1 f n m (by omega)
      refine ⟨i, by omega, b, fun j hj hji => ?_⟩
      by_cases q : j = m
      · rw [q]
        exact e
      · exact c j (by omega) hji
    · rw [if_neg e] at h
      refine ⟨m, by omega, e, fun j hj hji => misp_0 f n m (by omega) j (by omega)⟩
theorem misp_ne (f : Nat → Int32) (n : Nat) : ¬ misp f n n = 1 := by
  intro h
  obtain ⟨i, a, b, c⟩ := misp_1 f n n h
  have hr := rnk_lt f i n a
  have h9 := c (rnk f i n) hr b
  exact b (rnk_inj f hr a h9)
theorem srt_dn {f : Nat → Int32} {n k : Nat} (h1 : 1 ≤ k) (h2 : k < n) : ¬ srtG f (n - 1) (k - 1) < srtG f (n - 1) k := by
  have h9 := srtG_desc f (n - 1) (k - 1) (by omega)
  rw [show k - 1 + 1 = k from by omega] at h9
  exact i_nlt.mpr h9
-- a weight changed, put in, taken out: the total
theorem i_swap (a b c : Int32) : a - b + c = a + c - b := by
  rw [Int32.sub_eq_add_neg, Int32.sub_eq_add_neg, Int32.add_assoc, Int32.add_comm (-b), ← Int32.add_assoc]
theorem i_addsub (a b : Int32) : a + b - b = a := Int32.add_sub_cancel a b
theorem sumW_upd {f : Nat → Int32} {i : Nat} {x : Int32} : ∀ n, i < n → sumW (upd f i x) n = sumW f n - f i + x
  | 0, h => absurd h (Nat.not_lt_zero _)
  | n + 1, h => by
    rw [sumW, sumW, upd]
    by_cases e : n = i
    · subst e
      rw [if_pos rfl, sumW_cg (g := f) n (fun k hk => by rw [upd, if_neg (by omega)]), i_addsub]
    · rw [if_neg e, sumW_upd n (by omega), i_swap, i_swap, i_swap, Int32.add_assoc, Int32.add_comm x, ← Int32.add_assoc]
theorem sumW_insA {f : Nat → Int32} {i : Nat} {x : Int32} : ∀ n, i ≤ n → ∀ N, n ≤ N → sumW (insA f i N x) (n + 1) = sumW f n + x
  | 0, h, N, hN => by
    show 0 + insA f i N x 0 = 0 + x
    rw [insA, if_neg (by omega), if_pos (by omega)]
  | n + 1, h, N, hN => by
    rw [sumW]
    by_cases e : i = n + 1
    · rw [insA, if_neg (by omega), if_pos e.symm, sumW_cg (g := f) (n + 1) (fun k hk => by rw [insA, if_pos (by omega)])]
    · rw [sumW_insA n (by omega) N (by omega), insA, if_neg (by omega), if_neg (by omega), if_pos (by omega), Nat.add_sub_cancel, sumW.eq_2 f n, Int32.add_assoc, Int32.add_comm x, ← Int32.add_assoc]
theorem sumW_delA {f : Nat → Int32} {i N : Nat} : ∀ n, i ≤ n → n < N → sumW (delA f i N) n = sumW f (n + 1) - f i
  | 0, h, hN => by
    have e : i = 0 := by omega
    subst e
    rw [sumW, sumW, sumW, Int32.zero_add, Int32.sub_self]
  | n + 1, h, hN => by
    rw [sumW]
    by_cases e : i = n + 1
    · subst e
      rw [sumW.eq_2 f (n + 1), i_addsub, ← sumW, sumW_cg (f := delA f (n + 1) N) (g := f) (n + 1) (fun k hk => by rw [delA, if_neg (by omega)])]
    · rw [sumW_delA n (by omega) (by omega), delA, if_pos ⟨by omega, by omega⟩, sumW.eq_2 f (n + 1), i_swap]
theorem insA_at (f : Nat → Int32) (i n : Nat) (x : Int32) : insA f i n x i = x := by rw [insA, if_neg (by omega), if_pos rfl]
theorem insA_up {f : Nat → Int32} {i n : Nat} {x : Int32} (h : i < n) : insA f i n x (i + 1) = f i := by rw [insA, if_neg (by omega), if_neg (by omega), if_pos (by omega), Nat.add_sub_cancel]
theorem upd_at (f : Nat → Int32) (i : Nat) (x : Int32) : upd f i x i = x := by rw [upd, if_pos rfl]
theorem delA_at {f : Nat → Int32} {i n : Nat} (h : i + 1 < n) : delA f i n i = f (i + 1) := by rw [delA, if_pos ⟨by omega, by omega⟩]
theorem e_back (c v : Int32) : 16 * c - (16 * c - v) = v := by
  rw [Int32.sub_eq_add_neg, Int32.neg_sub, Int32.sub_eq_add_neg v, ← Int32.add_assoc, Int32.add_comm (16 * c) v, Int32.add_assoc, Int32.add_right_neg, Int32.add_zero]
/-- a conversion in the log -/
theorem zI_cv {z : StV} (h : zI z) : zI ((wgS z.2.2.2.2.2.2.2.1 z.2.2.1 z.2.2.2.1 z.2.2.2.2.1 z.1 z.2.2.2.2.2.1).1, z.2.1, z.2.2.1, z.2.2.2.1, 0, z.2.2.2.2.2.1, min (z.2.2.2.2.2.2.1 + 1) 8, z.2.2.2.2.2.2.2.1, shF z.2.2.2.2.2.2.2.2.1 z.1, shF z.2.2.2.2.2.2.2.2.2.1 (wgS z.2.2.2.2.2.2.2.1 z.2.2.1 z.2.2.2.1 z.2.2.2.2.1 z.1 z.2.2.2.2.2.1).2.1, shF z.2.2.2.2.2.2.2.2.2.2 (wgS z.2.2.2.2.2.2.2.1 z.2.2.1 z.2.2.2.1 z.2.2.2.2.1 z.1 z.2.2.2.2.2.1).2.2) := by
  obtain ⟨a1, a2, a3, a4, -⟩ := wg_all (leak := z.2.2.1) (off := z.2.2.2.1) (gl := z.2.2.2.2.1) (v0 := z.1) (zI_b h).2.1 (zI_f h)
  obtain ⟨⟨w1, w2, w3, w4, w5, w6⟩, l1, l2⟩ := h
  refine ⟨⟨?_, w2, w3, w4, ?_, w6⟩, l1, ?_⟩
  · show 0 ≤ (wgS _ _ _ _ _ _).1.toInt ∧ _
    rw [wgS_left]
    exact hItr_rng w3 _ w1
  · show min (z.2.2.2.2.2.2.1 + 1) 8 ≤ 8
    omega
  · intro i hi
    have hi : i < min (z.2.2.2.2.2.2.1 + 1) 8 := hi
    show (0 ≤ (shF z.2.2.2.2.2.2.2.2.1 z.1 i).toInt ∧ (shF z.2.2.2.2.2.2.2.2.1 z.1 i).toInt ≤ 65535) ∧ (0 ≤ (shF z.2.2.2.2.2.2.2.2.2.1 _ i).toInt ∧ (shF z.2.2.2.2.2.2.2.2.2.1 _ i).toInt ≤ 4095) ∧ (0 ≤ (shF z.2.2.2.2.2.2.2.2.2.2 _ i).toInt ∧ (shF z.2.2.2.2.2.2.2.2.2.2 _ i).toInt ≤ 24576) ∧ (shF z.2.2.2.2.2.2.2.2.2.2 _ i = 0 ↔ shF z.2.2.2.2.2.2.2.2.2.1 _ i = 0)
    by_cases e : i = 0
    · simp only [shF, e, ↓reduceIte]
      exact ⟨w1, a1, a2, a3⟩
    · simp only [shF, e, ↓reduceIte]
      exact l2 (i - 1) (by omega)
theorem wg_v {z : StV} (h : zI z) : ¬ z.1 < (wgS z.2.2.2.2.2.2.2.1 z.2.2.1 z.2.2.2.1 z.2.2.2.2.1 z.1 z.2.2.2.2.2.1).1 := by
  rw [wgS_left, i_lt]
  have := hItr_le h.1.2.2.1 z.2.2.2.2.2.1 h.1.1
  omega
