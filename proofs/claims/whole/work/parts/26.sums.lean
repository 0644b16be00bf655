/-! the class's set of sums, bit by bit, and the model's -/
def bl (x : Int64) (i : Nat) : Bool := x.toBitVec.getLsbD i
theorem s_l6 : ∀ n, n < 64 → (((nI n : Int32).toInt64 &&& 63).toBitVec.smod 64).toNat = n := by decide +kernel
theorem s_u6 : ∀ n, n < 65 → 1 ≤ n → ((((nI (64 - n) : Int32).toInt64.toUInt64 &&& Int64.toUInt64 63)).toBitVec % 64).toNat = (64 - n) := by decide +kernel
theorem bl_or (x y : Int64) (i : Nat) : bl (x ||| y) i = (bl x i || bl y i) := by unfold bl; rw [Int64.toBitVec_or, BitVec.getLsbD_or]
theorem bl_big {x : Int64} {i : Nat} (h : 64 ≤ i) : bl x i = false := BitVec.getLsbD_of_ge _ _ h
theorem bl_shl (n : Nat) (hn : n < 64) (x : Int64) {i : Nat} (hi : i < 64) : bl (x <<< ((nI n : Int32).toInt64 &&& 63)) i = (decide (n ≤ i) && bl x (i - n)) := by
  unfold bl
  rw [Int64.toBitVec_shiftLeft]
  show (x.toBitVec <<< (((nI n : Int32).toInt64 &&& 63).toBitVec.smod 64).toNat).getLsbD i = _
  rw [s_l6 n hn, BitVec.getLsbD_shiftLeft]
  rcases Nat.lt_or_ge i n with h | h
  · simp [h, Nat.not_le.mpr h]
  · simp [hi, h, Nat.not_lt.mpr h]
theorem bl_ushr (n : Nat) (h1 : 1 ≤ n) (hn : n < 64) (x : Int64) (i : Nat) : bl ((x.toUInt64 >>> ((nI (64 - n) : Int32).toInt64.toUInt64 &&& Int64.toUInt64 63)).toInt64) i = bl x (64 - n + i) := by
  show (x.toUInt64 >>> ((nI (64 - n) : Int32).toInt64.toUInt64 &&& Int64.toUInt64 63)).toBitVec.getLsbD i = x.toUInt64.toBitVec.getLsbD (64 - n + i)
  rw [UInt64.toBitVec_shiftRight]
  show (x.toUInt64.toBitVec >>> (((nI (64 - n) : Int32).toInt64.toUInt64 &&& Int64.toUInt64 63).toBitVec % 64).toNat).getLsbD i = _
  rw [s_u6 n (by omega) h1, BitVec.getLsbD_ushiftRight]
theorem bl_sshr0 (n : Nat) (hn : n < 64) (x : Int64) : bl (x >>> ((nI n : Int32).toInt64 &&& 63)) 0 = bl x n := by
  unfold bl
  rw [Int64.toBitVec_shiftRight]
  show (x.toBitVec.sshiftRight (((nI n : Int32).toInt64 &&& 63).toBitVec.smod 64).toNat).getLsbD 0 = _
  rw [s_l6 n hn, BitVec.getLsbD_sshiftRight]
  simp [hn]
/-- the bit of v in the row of words -/
def bW (wd : Nat → Int64) (v : Nat) : Bool := bl (wd (v / 64)) (v % 64)
theorem bW_add (wd : Nat → Int64) (n v : Nat) (hn : n < 4096) (hv : v < 4096) : bW (addG wd n) v = (bW wd v || (decide (n ≤ v) && bW wd (v - n))) := by
  unfold bW addG
  have hi : v % 64 < 64 := Nat.mod_lt _ (by omega)
  by_cases h : n / 64 ≤ v / 64
  · rw [if_pos h, bl_or, shV]
    congr 1
    by_cases h2 : 0 < n % 64 ∧ n / 64 < v / 64
    · have hd : decide (n ≤ v) = true := decide_eq_true (by omega)
      rw [if_pos h2, bl_or, bl_shl _ (by omega) _ hi, bl_ushr _ (by omega) (by omega), hd, Bool.true_and]
      by_cases h3 : n % 64 ≤ v % 64
      · rw [decide_eq_true h3, Bool.true_and, bl_big (x := wd (v / 64 - n / 64 - 1)) (by omega), Bool.or_false]
        rw [show (v - n) / 64 = v / 64 - n / 64 from by omega, show (v - n) % 64 = v % 64 - n % 64 from by omega]
      · rw [decide_eq_false h3, Bool.false_and, Bool.false_or]
        rw [show (v - n) / 64 = v / 64 - n / 64 - 1 from by omega, show (v - n) % 64 = 64 - n % 64 + v % 64 from by omega]
    · rw [if_neg h2, bl_shl _ (by omega) _ hi]
      by_cases h3 : n ≤ v
      · rw [decide_eq_true h3, decide_eq_true (show n % 64 ≤ v % 64 by omega), Bool.true_and, Bool.true_and]
        rw [show (v - n) / 64 = v / 64 - n / 64 from by omega, show (v - n) % 64 = v % 64 - n % 64 from by omega]
      · rw [decide_eq_false h3, decide_eq_false (show ¬ n % 64 ≤ v % 64 by omega), Bool.false_and, Bool.false_and]
  · rw [if_neg h, decide_eq_false (show ¬ n ≤ v by omega), Bool.false_and, Bool.or_false]
theorem bl_1 : ∀ i, i < 64 → bl 1 i = decide (i = 0) := by decide +kernel
theorem bl_0 (i : Nat) : bl 0 i = false := BitVec.getLsbD_zero
theorem fill_sumB (f : Nat → Int32) : ∀ n, (∀ k, k < n → wN (f k) ≤ 2048) → ∀ v, v < 4096 → bW (fillG f n) v = sumB f n v
  | 0, _, v, hv => by
    rw [fillG, bW, oneL, sumB]
    by_cases h : v / 64 = 0
    · rw [if_pos h, bl_1 _ (by omega)]
      by_cases h2 : v = 0
      · subst h2
        rfl
      · rw [decide_eq_false (by omega)]
        simp [h2]
    · rw [if_neg h, bl_0]
      have h2 : ¬ v = 0 := fun q => h (by rw [q])
      simp [h2]
  | n + 1, hw, v, hv => by
    have ih := fill_sumB f n (fun k hk => hw k (by omega))
    have h1 := hw n (by omega)
    rw [fillG, bW_add _ _ _ (by omega) hv, sumB, ih v hv, ih (v - wN (f n)) (by omega)]
theorem bitL_eq (wd : Nat → Int64) (k : Nat) : bitL wd k = if bW wd k = true then 1 else 0 := by
  unfold bitL bW
  have hi : k % 64 < 64 := Nat.mod_lt _ (by omega)
  have e := bl_sshr0 (k % 64) hi (wd (k / 64))
  generalize wd (k / 64) >>> ((nI (k % 64) : Int32).toInt64 &&& 63) = x at e ⊢
  rw [← e]
  apply Int64.toBitVec_inj.mp
  rw [Int64.toBitVec_and]
  apply BitVec.eq_of_getLsbD_eq
  intro i h
  rw [BitVec.getLsbD_and]
  by_cases hb : bl x 0 = true
  · rw [if_pos hb]
    by_cases z : i = 0
    · subst z
      have : x.toBitVec.getLsbD 0 = true := hb
      rw [this]
      rfl
    · have : (1 : Int64).toBitVec.getLsbD i = false := by
        have := bl_1 i (by omega)
        rw [decide_eq_false z] at this
        exact this
      rw [this, Bool.and_false]
  · rw [if_neg hb]
    by_cases z : i = 0
    · subst z
      have h2 : x.toBitVec.getLsbD 0 = false := by
        cases q : x.toBitVec.getLsbD 0
        · rfl
        · exact absurd q hb
      rw [h2]
      rfl
    · have h1 : (1 : Int64).toBitVec.getLsbD i = false := by
        have := bl_1 i (by omega)
        rw [decide_eq_false z] at this
        exact this
      have h0 : (0 : Int64).toBitVec.getLsbD i = false := BitVec.getLsbD_zero
      rw [h1, h0, Bool.and_false]
theorem lm_eq (wd : Nat → Int64) (p : Nat → Bool) (h : ∀ v, v < 4096 → bW wd v = p v) : ∀ (m k : Nat), k + m ≤ 4096 → lmGo wd m k = lmS p m k
  | 0, _, _ => rfl
  | m + 1, k, hk => by
    rw [lmGo, lmS, bitL_eq, h k (by omega)]
    cases p k with
    | true =>
      rw [if_pos rfl, if_neg (by decide), if_pos rfl]
      exact lm_eq wd p h m (k + 1) (by omega)
    | false =>
      rw [if_pos (show (if false = true then (1 : Int64) else 0) = 0 from rfl), if_neg (by decide)]
theorem least_eq {f : Nat → Int32} {n : Nat} (hw : ∀ k, k < n → wN (f k) ≤ 2048) : lmGo (fillG f n) 4095 1 = lmS (sumB f n) 4095 1 := lm_eq _ _ (fill_sumB f n hw) 4095 1 (by omega)
