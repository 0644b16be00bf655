/-! doubles: a mean times its number lies within a half of the sum (over the library's laws of rounding) -/
theorem fl_big {A B k : Nat} (h : A ≤ 2 ^ 53 * 2 ^ k) (hB : 0 < B) : A < (2 ^ 54 - 1) * 2 ^ (970 + k) * B := by
  have hk := Nat.two_pow_pos k
  have h1 : 2 ^ k ≤ 2 ^ (970 + k) := Nat.pow_le_pow_right (by omega) (by omega)
  have h2 : 2 ^ 53 * 2 ^ k < (2 ^ 54 - 1) * 2 ^ k := Nat.mul_lt_mul_of_pos_right (by decide) hk
  have h3 : (2 ^ 54 - 1) * 2 ^ k ≤ (2 ^ 54 - 1) * 2 ^ (970 + k) := Nat.mul_le_mul_left _ h1
  exact Nat.lt_of_le_of_lt h (Nat.lt_of_lt_of_le h2 (Nat.le_trans h3 (Nat.le_mul_of_pos_right _ hB)))
theorem fl_k {V PP : Nat} (h : V ≤ 2 ^ 23 * PP) : 2 * V ≤ 2 ^ 53 * (2 * PP) := by omega
theorem fl_t (t : Bool) (U : Nat) : FP.Core.signed t U = (if t = true then -1 else 1) * (U : Int) := by
  cases t
  · show (U : Int) = 1 * (U : Int)
    omega
  · show -(U : Int) = -1 * (U : Int)
    omega
theorem fl_near {s : Bool} {A B c' : Nat} {e q' e0 : Int} (hB : 0 < B) (hc : c' < 2 ^ 53) (hq : -1074 ≤ q') (h0 : e0 ≤ -1074) (h0e : e0 ≤ e)
    (hfin : FP.Core.inUnits A e (e0 - 1) < (2 ^ 54 - 1) * 2 ^ (971 - 1 - (e0 - 1)).toNat * B) :
    ∃ c q, FP.Core.roundRatio FP.Core.b64 s A B e = .fin s c q ∧ -1074 ≤ q ∧ FP.Core.distance A B e c q e0 ≤ FP.Core.distance A B e c' q' e0 := by
  have hmin : FP.Core.b64.qmin = -1074 := by decide
  have hmax : FP.Core.b64.qmax = 971 := by decide
  have hfit := FP.Core.roundRatio_fits FP.Core.good_b64 s A hB e
  rcases FP.Core.roundRatio_cases FP.Core.b64 s A B e with ⟨c, q, hR⟩ | hR
  · refine ⟨c, q, hR, ?_, ?_⟩
    · rw [hR] at hfit
      have h9 := hfit.2.1
      omega
    · exact FP.Core.roundRatio_nearest FP.Core.good_b64 hB hR hc (by omega) (by omega) h0e
  · exfalso
    have h9 := (FP.Core.roundRatio_inf FP.Core.good_b64 (e0 := e0 - 1) hB (by omega) (by omega)).mp hR
    rw [hmax] at h9
    exact absurd h9 (Nat.not_le.mpr hfin)
theorem fl_int (x : Int32) : ∃ c q, FP.Core.val64 (FP.i2d x) = .fin (decide (x.toInt < 0)) c q ∧ -1074 ≤ q ∧ c * 2 ^ (q + 1074).toNat = x.toInt.natAbs * 2 ^ 1074 ∧ c * 2 ^ q.toNat = x.toInt.natAbs * 2 ^ (-q).toNat := by
  have hmin : FP.Core.b64.qmin = -1074 := by decide
  have hlt := x.toInt_lt
  have hle := x.le_toInt
  obtain ⟨c, q, h⟩ := FP.Core.l2d_shape x.toInt64
  have hs : FP.Core.Small53 x.toInt64 := by
    unfold FP.Core.Small53
    rw [Int32.toInt_toInt64]
    omega
  have hw := FP.Core.l2d_whole hs
  have hf := FP.Core.val64_fits (FP.Core.l2d x.toInt64)
  have hz := FP.Core.whole_zval FP.Core.good_b64 hf hw
  rw [h] at hz hw hf
  rw [Int32.toInt_toInt64] at hz hw h
  have h2 : FP.Core.val64 (FP.i2d x) = .fin (decide (x.toInt < 0)) c q := by
    rw [← h]
    exact congrArg FP.Core.val64 (FP.Core.i2d_l2d x)
  have h3 := hf.2.1
  refine ⟨c, q, h2, by omega, ?_, FP.Core.whole_natAbs hw⟩
  have h4 := congrArg Int.natAbs hz
  rw [hmin, Int.natAbs_mul, Int.natAbs_natCast] at h4
  have h5 : (FP.Core.zval FP.Core.b64 (.fin (decide (x.toInt < 0)) c q)).natAbs = c * 2 ^ (q - -1074).toNat := by
    show (FP.Core.signed _ (FP.Core.inUnits c q FP.Core.b64.qmin)).natAbs = _
    rw [FP.Core.natAbs_signed, hmin]
    rfl
  rw [h5] at h4
  rw [show q + 1074 = q - -1074 from by omega]
  exact h4
/-- the quotient of two whole numbers, and what it is in units of the least number -/
theorem fl_div {e : Int32} {n : Nat} (h1 : 1 ≤ n) (h2 : n ≤ 8) (ha : e.toInt.natAbs ≤ 2 ^ 22) : ∃ c q, FP.Core.val64 (FP.ddiv (FP.i2d e) (FP.i2d (nI n))) = .fin (decide (e.toInt < 0)) c q ∧ -1074 ≤ q ∧ ((e.toInt.natAbs * 2 ^ 1074 : Nat) : Int) - ((c * 2 ^ (q + 1074).toNat * n : Nat) : Int) ≤ ((8 * 2 ^ 1054 : Nat) : Int) ∧ ((c * 2 ^ (q + 1074).toNat * n : Nat) : Int) - ((e.toInt.natAbs * 2 ^ 1074 : Nat) : Int) ≤ ((8 * 2 ^ 1054 : Nat) : Int) := by
  obtain ⟨c1, q1, v1, b1, -, w1⟩ := fl_int e
  obtain ⟨c2, q2, v2, b2, -, w2⟩ := fl_int (nI n)
  have en : (nI n).toInt = n := nI_toInt (by omega)
  rw [en, Int.natAbs_natCast] at w2
  have d2 : ¬ c2 = 0 := by
    intro q
    rw [q, Nat.zero_mul] at w2
    have := Nat.mul_pos (show 0 < n by omega) (Nat.two_pow_pos (-q2).toNat)
    omega
  have s2 : decide ((nI n).toInt < 0) = false := by
    rw [en]
    exact decide_eq_false (by omega)
  generalize e.toInt.natAbs = a at w1 ha ⊢
  have hq : FP.Core.val64 (FP.ddiv (FP.i2d e) (FP.i2d (nI n))) = FP.Core.roundRatio FP.Core.b64 (decide (e.toInt < 0)) a n 0 := by
    rw [FP.Core.val64_ddiv, v1, v2, s2]
    show (if c2 = 0 then (if c1 = 0 then FP.Core.Datum.nan else .inf _) else FP.Core.roundRatio FP.Core.b64 ((decide (e.toInt < 0)) != false) c1 c2 (q1 - q2)) = _
    rw [if_neg d2, show ((decide (e.toInt < 0)) != false) = decide (e.toInt < 0) from Bool.bne_false _]
    refine FP.Core.roundRatio_congr (by omega) (by omega) ?_
    refine Nat.eq_of_mul_eq_mul_right (Nat.two_pow_pos (q1.toNat)) ?_
    refine Nat.eq_of_mul_eq_mul_right (Nat.two_pow_pos ((-q2).toNat)) ?_
    have hx : (-q1).toNat + q2.toNat + (q1 - q2 - 0).toNat = (0 - (q1 - q2)).toNat + q1.toNat + (-q2).toNat := by omega
    calc c1 * n * 2 ^ (q1 - q2 - 0).toNat * 2 ^ q1.toNat * 2 ^ (-q2).toNat
        = (c1 * 2 ^ q1.toNat) * (n * 2 ^ (-q2).toNat) * 2 ^ (q1 - q2 - 0).toNat := by ac_rfl
      _ = (a * 2 ^ (-q1).toNat) * (c2 * 2 ^ q2.toNat) * 2 ^ (q1 - q2 - 0).toNat := by rw [w1, w2]
      _ = a * c2 * 2 ^ ((-q1).toNat + q2.toNat + (q1 - q2 - 0).toNat) := by rw [Nat.pow_add, Nat.pow_add]; ac_rfl
      _ = a * c2 * 2 ^ ((0 - (q1 - q2)).toNat + q1.toNat + (-q2).toNat) := by rw [hx]
      _ = a * c2 * 2 ^ (0 - (q1 - q2)).toNat * 2 ^ q1.toNat * 2 ^ (-q2).toNat := by rw [Nat.pow_add, Nat.pow_add]; ac_rfl
  rw [hq]
  have hk : a * 2 ^ 20 / n < 2 ^ 53 := by
    have : a * 2 ^ 20 / n ≤ a * 2 ^ 20 := Nat.div_le_self _ _
    omega
  obtain ⟨c, q, g1, g2, g3⟩ := fl_near (s := decide (e.toInt < 0)) (A := a) (B := n) (c' := a * 2 ^ 20 / n) (e := 0) (q' := -20) (e0 := -1074) (by omega) hk (by omega) (by omega) (by omega) (by
    have h9 : FP.Core.inUnits a 0 (-1074 - 1) = a * 2 ^ 1075 := rfl
    rw [h9, show ((971 : Int) - 1 - (-1074 - 1)).toNat = 970 + 1075 from rfl]
    exact fl_big (Nat.mul_le_mul_right _ (by omega)) (by omega))
  refine ⟨c, q, g1, g2, ?_⟩
  unfold FP.Core.distance at g3
  have u1 : FP.Core.inUnits a 0 (-1074) = a * 2 ^ 1074 := rfl
  have u2 : FP.Core.inUnits (a * 2 ^ 20 / n) (-20) (-1074) = a * 2 ^ 20 / n * 2 ^ 1054 := rfl
  have u3 : FP.Core.inUnits c q (-1074) = c * 2 ^ (q + 1074).toNat := by
    unfold FP.Core.inUnits
    rw [show q - -1074 = q + 1074 from by omega]
  have hP : (2 : Nat) ^ 1074 = 2 ^ 20 * 2 ^ 1054 := by rw [← Nat.pow_add]
  rw [u1, u2, u3, hP] at g3
  rw [hP]
  generalize (2 : Nat) ^ 1054 = T at g3 ⊢
  generalize c * 2 ^ (q + 1074).toNat = X at g3 ⊢
  have hd := Nat.div_add_mod (a * 2 ^ 20) n
  have hm := Nat.mod_lt (a * 2 ^ 20) (show 0 < n by omega)
  have e1 : a * (2 ^ 20 * T) = (n * (a * 2 ^ 20 / n) + a * 2 ^ 20 % n) * T := by rw [hd, Nat.mul_assoc]
  have e2 : a * 2 ^ 20 / n * T * n = n * (a * 2 ^ 20 / n) * T := by ac_rfl
  have hmT : a * 2 ^ 20 % n * T ≤ 8 * T := Nat.mul_le_mul_right _ (by omega)
  rw [← Int.natCast_mul, ← Int.natCast_mul, e2, e1, Nat.add_mul] at g3
  rw [e1, Nat.add_mul]
  generalize n * (a * 2 ^ 20 / n) * T = Y at g3 ⊢
  generalize a * 2 ^ 20 % n * T = Z at g3 hmT ⊢
  generalize X * n = V at g3 ⊢
  omega
theorem fl_mul {x : UInt64} {s : Bool} {c n a : Nat} {q : Int} (h1 : 1 ≤ n) (h2 : n ≤ 8) (ha : a ≤ 2 ^ 22) (hv : FP.Core.val64 x = .fin s c q) (hq : -1074 ≤ q)
    (hl : ((a * 2 ^ 1074 : Nat) : Int) - ((c * 2 ^ (q + 1074).toNat * n : Nat) : Int) ≤ ((8 * 2 ^ 1054 : Nat) : Int)) (hu : ((c * 2 ^ (q + 1074).toNat * n : Nat) : Int) - ((a * 2 ^ 1074 : Nat) : Int) ≤ ((8 * 2 ^ 1054 : Nat) : Int)) :
    ∃ c1 q1, FP.Core.val64 (FP.dmul x (FP.i2d (nI n))) = .fin s c1 q1 ∧ -1074 ≤ q1 ∧ ((a * 2 ^ 1074 : Nat) : Int) - ((c1 * 2 ^ (q1 + 1074).toNat : Nat) : Int) ≤ ((16 * 2 ^ 1054 : Nat) : Int) ∧ ((c1 * 2 ^ (q1 + 1074).toNat : Nat) : Int) - ((a * 2 ^ 1074 : Nat) : Int) ≤ ((16 * 2 ^ 1054 : Nat) : Int) := by
  obtain ⟨d, r, v2, b2, w2, -⟩ := fl_int (nI n)
  have en : (nI n).toInt = n := nI_toInt (by omega)
  have s2 : decide ((nI n).toInt < 0) = false := by
    rw [en]
    exact decide_eq_false (by omega)
  rw [en, Int.natAbs_natCast] at w2
  have hR : FP.Core.val64 (FP.dmul x (FP.i2d (nI n))) = FP.Core.roundRatio FP.Core.b64 s (c * d) 1 (q + r) := by
    rw [FP.Core.val64_dmul, hv, v2, s2]
    show FP.Core.roundRatio FP.Core.b64 (s != false) (c * d) 1 (q + r) = _
    rw [show (s != false) = s from Bool.bne_false _]
  have hP : (2 : Nat) ^ 1074 = 2 ^ 20 * 2 ^ 1054 := by rw [← Nat.pow_add]
  have hT := Nat.two_pow_pos 1054
  -- in units of 2^-2148
  have uA : FP.Core.inUnits (c * d) (q + r) (-2148) = c * 2 ^ (q + 1074).toNat * n * 2 ^ 1074 := by
    unfold FP.Core.inUnits
    rw [show (q + r - -2148).toNat = (q + 1074).toNat + (r + 1074).toNat from by omega, Nat.pow_add, Nat.mul_assoc (c * 2 ^ (q + 1074).toNat), ← w2]
    ac_rfl
  have uA1 : FP.Core.inUnits (c * d) (q + r) (-2148 - 1) = 2 * (c * 2 ^ (q + 1074).toNat * n * 2 ^ 1074) := by
    rw [← uA]
    unfold FP.Core.inUnits
    rw [show (q + r - (-2148 - 1)).toNat = (q + r - -2148).toNat + 1 from by omega, Nat.pow_succ]
    ac_rfl
  have hb : c * 2 ^ (q + 1074).toNat * n ≤ 2 ^ 23 * 2 ^ 1074 := by
    have g1 : a * 2 ^ 1074 ≤ 2 ^ 22 * 2 ^ 1074 := Nat.mul_le_mul_right _ ha
    rw [hP] at g1 hu ⊢
    generalize (2 : Nat) ^ 1054 = T at g1 hu hT ⊢
    generalize c * 2 ^ (q + 1074).toNat * n = V at hu ⊢
    generalize a * (2 ^ 20 * T) = W at g1 hu
    omega
  obtain ⟨c1, q1, g1, g2, g3⟩ := fl_near (s := s) (A := c * d) (B := 1) (c' := a) (e := q + r) (q' := 0) (e0 := -2148) (by omega) (by omega) (by omega) (by omega) (by omega) (by
    rw [uA1, show ((971 : Int) - 1 - (-2148 - 1)).toNat = 970 + 2149 from rfl]
    refine fl_big ?_ (by omega)
    have k1 : c * 2 ^ (q + 1074).toNat * n * 2 ^ 1074 ≤ 2 ^ 23 * (2 ^ 1074 * 2 ^ 1074) := by
      rw [← Nat.mul_assoc]
      exact Nat.mul_le_mul_right _ hb
    have k2 : (2 : Nat) ^ 2149 = 2 * (2 ^ 1074 * 2 ^ 1074) := by rw [← Nat.pow_add, ← Nat.pow_succ']
    rw [k2]
    exact fl_k k1)
  refine ⟨c1, q1, by rw [hR]; exact g1, g2, ?_⟩
  unfold FP.Core.distance at g3
  have uB : FP.Core.inUnits a 0 (-2148) = a * 2 ^ 1074 * 2 ^ 1074 := by
    unfold FP.Core.inUnits
    rw [show ((0 : Int) - -2148).toNat = 1074 + 1074 from rfl, Nat.pow_add, Nat.mul_assoc]
  have uC : FP.Core.inUnits c1 q1 (-2148) = c1 * 2 ^ (q1 + 1074).toNat * 2 ^ 1074 := by
    unfold FP.Core.inUnits
    rw [show (q1 - -2148).toNat = (q1 + 1074).toNat + 1074 from by omega, Nat.pow_add, Nat.mul_assoc]
  rw [uA, uB, uC] at g3
  generalize c * 2 ^ (q + 1074).toNat * n = V at g3 hl hu
  generalize c1 * 2 ^ (q1 + 1074).toNat = Y at g3 ⊢
  have k3 : ((V : Int) - (Y : Int)).natAbs ≤ ((V : Int) - ((a * 2 ^ 1074 : Nat) : Int)).natAbs := by
    have z1 : (((V * 2 ^ 1074 : Nat) : Int) - ((Y * 2 ^ 1074 : Nat) : Int) * ((1 : Nat) : Int)).natAbs = ((V : Int) - (Y : Int)).natAbs * 2 ^ 1074 := by
      rw [Int.natCast_one, Int.mul_one, Int.natCast_mul, Int.natCast_mul, ← Int.sub_mul, Int.natAbs_mul, Int.natAbs_natCast]
    have z2 : (((V * 2 ^ 1074 : Nat) : Int) - ((a * 2 ^ 1074 * 2 ^ 1074 : Nat) : Int) * ((1 : Nat) : Int)).natAbs = ((V : Int) - ((a * 2 ^ 1074 : Nat) : Int)).natAbs * 2 ^ 1074 := by
      rw [Int.natCast_one, Int.mul_one, Int.natCast_mul, Int.natCast_mul (a * 2 ^ 1074), ← Int.sub_mul, Int.natAbs_mul, Int.natAbs_natCast]
    rw [z1, z2] at g3
    exact Nat.le_of_mul_le_mul_right g3 (Nat.two_pow_pos 1074)
  generalize a * 2 ^ 1074 = W at hl hu k3 ⊢
  generalize (2 : Nat) ^ 1054 = T at hl hu ⊢
  omega
def fHalf : UInt64 := 4602678819172646912
theorem val_half : FP.Core.val64 fHalf = .fin false (2 ^ 52) (-53) := by decide +kernel
/-- a whole number and a half, added or taken away -/
theorem fl_half {e : Int32} (t : Bool) (ha : e.toInt.natAbs ≤ 2 ^ 22) : ∃ c q, FP.Core.round FP.Core.b64 (FP.Core.exactSum (FP.Core.val64 (FP.i2d e)) (.fin t (2 ^ 52) (-53))) = .fin (decide (2 * e.toInt + (if t = true then -1 else 1) < 0)) c q ∧ -1074 ≤ q ∧ c * 2 ^ (q + 1074).toNat = (2 * e.toInt + (if t = true then -1 else 1)).natAbs * 2 ^ 1073 := by
  obtain ⟨c1, q1, v1, b1, w1, -⟩ := fl_int e
  rw [v1]
  obtain ⟨w, hw⟩ : ∃ w : Int, w = min q1 (-53) := ⟨_, rfl⟩
  have hw1 : w ≤ q1 := by omega
  have hw2 : w ≤ -53 := by omega
  have hw3 : -1074 ≤ w := by omega
  obtain ⟨N, hN⟩ : ∃ N : Int, N = FP.Core.sumUnits (decide (e.toInt < 0)) c1 q1 t (2 ^ 52) (-53) w := ⟨_, rfl⟩
  -- N in units of 2^w is e and a half
  have k1 : FP.Core.inUnits c1 q1 w * 2 ^ (w + 1074).toNat = c1 * 2 ^ (q1 + 1074).toNat := by
    unfold FP.Core.inUnits
    rw [Nat.mul_assoc, ← Nat.pow_add, show (q1 - w).toNat + (w + 1074).toNat = (q1 + 1074).toNat from by omega]
  have k2 : FP.Core.inUnits (2 ^ 52) (-53) w * 2 ^ (w + 1074).toNat = 2 ^ 1073 := by
    unfold FP.Core.inUnits
    rw [Nat.mul_assoc, ← Nat.pow_add, ← Nat.pow_add, show 52 + ((-53 - w).toNat + (w + 1074).toNat) = 1073 from by omega]
  have hP : (2 : Nat) ^ 1074 = 2 * 2 ^ 1073 := by rw [← Nat.pow_succ']
  have k3 : N * ((2 ^ (w + 1074).toNat : Nat) : Int) = (2 * e.toInt + (if t = true then -1 else 1)) * ((2 ^ 1073 : Nat) : Int) := by
    rw [hN]
    unfold FP.Core.sumUnits
    rw [Int.add_mul, ← FP.Core.signed_mul, ← FP.Core.signed_mul, k1, k2, w1, hP]
    generalize (2 : Nat) ^ 1073 = U
    have z1 : FP.Core.signed (decide (e.toInt < 0)) (e.toInt.natAbs * (2 * U)) = 2 * e.toInt * (U : Int) := by
      rw [FP.Core.signed_mul]
      have z2 : FP.Core.signed (decide (e.toInt < 0)) e.toInt.natAbs = e.toInt := by
        unfold FP.Core.signed
        by_cases h : e.toInt < 0
        · rw [decide_eq_true h, if_pos rfl]
          omega
        · rw [decide_eq_false h, if_neg (by decide)]
          omega
      rw [z2, Int.natCast_mul, ← Int.mul_assoc, Int.mul_comm e.toInt]
      rfl
    rw [z1, Int.add_mul, fl_t]
  obtain ⟨E, hE⟩ : ∃ E : Int, E = 2 * e.toInt + (if t = true then -1 else 1) := ⟨_, rfl⟩
  rw [← hE] at k3 ⊢
  have hE0 : ¬ E = 0 ∧ E.natAbs ≤ 2 ^ 23 + 1 := by
    rw [hE]
    split <;> omega
  have p1 := Nat.two_pow_pos (w + 1074).toNat
  have p2 := Nat.two_pow_pos 1073
  have k4 : N.natAbs * 2 ^ (w + 1074).toNat = E.natAbs * 2 ^ 1073 := by
    have h9 := congrArg Int.natAbs k3
    rw [Int.natAbs_mul, Int.natAbs_mul, Int.natAbs_natCast, Int.natAbs_natCast] at h9
    exact h9
  have hN0 : ¬ N = 0 := by
    intro q
    rw [q, Int.zero_mul] at k3
    have h9 := Int.mul_eq_zero.mp k3.symm
    omega
  have hsg : FP.Core.sumSign (decide (e.toInt < 0)) t N = decide (E < 0) := by
    unfold FP.Core.sumSign
    rw [if_neg hN0]
    have i1 : N < 0 ↔ E < 0 := by
      have a1 : N < 0 ↔ N * ((2 ^ (w + 1074).toNat : Nat) : Int) < 0 := by
        constructor
        · intro h
          exact Int.mul_neg_of_neg_of_pos h (by omega)
        · intro h
          refine Int.not_le.mp (fun h2 => ?_)
          have := Int.mul_nonneg h2 (show (0 : Int) ≤ ((2 ^ (w + 1074).toNat : Nat) : Int) by omega)
          omega
      have a2 : E < 0 ↔ E * ((2 ^ 1073 : Nat) : Int) < 0 := by
        constructor
        · intro h
          exact Int.mul_neg_of_neg_of_pos h (by omega)
        · intro h
          refine Int.not_le.mp (fun h2 => ?_)
          have := Int.mul_nonneg h2 (show (0 : Int) ≤ ((2 ^ 1073 : Nat) : Int) by omega)
          omega
      rw [a1, a2, k3]
    exact decide_eq_decide.mpr i1
  have hx : FP.Core.round FP.Core.b64 (FP.Core.exactSum (.fin (decide (e.toInt < 0)) c1 q1) (.fin t (2 ^ 52) (-53))) = FP.Core.roundRatio FP.Core.b64 (decide (E < 0)) N.natAbs 1 w := by
    show FP.Core.roundRatio FP.Core.b64 (FP.Core.sumSign (decide (e.toInt < 0)) t (FP.Core.sumUnits (decide (e.toInt < 0)) c1 q1 t (2 ^ 52) (-53) (min q1 (-53)))) (FP.Core.sumUnits (decide (e.toInt < 0)) c1 q1 t (2 ^ 52) (-53) (min q1 (-53))).natAbs 1 (min q1 (-53)) = _
    rw [← hw, ← hN, hsg]
  rw [hx]
  have uN : FP.Core.inUnits N.natAbs w (-1074) = E.natAbs * 2 ^ 1073 := by
    unfold FP.Core.inUnits
    rw [show w - -1074 = w + 1074 from by omega]
    exact k4
  have uN1 : FP.Core.inUnits N.natAbs w (-1074 - 1) = 2 * (E.natAbs * 2 ^ 1073) := by
    rw [← uN]
    unfold FP.Core.inUnits
    rw [show (w - (-1074 - 1)).toNat = (w - -1074).toNat + 1 from by omega, Nat.pow_succ]
    ac_rfl
  obtain ⟨c, q, g1, g2, g3⟩ := fl_near (s := decide (E < 0)) (A := N.natAbs) (B := 1) (c' := E.natAbs) (e := w) (q' := -1) (e0 := -1074) (by omega) (by omega) (by omega) (by omega) hw3 (by
    rw [uN1, show ((971 : Int) - 1 - (-1074 - 1)).toNat = 970 + 1075 from rfl]
    refine fl_big ?_ (by omega)
    have k5 : (2 : Nat) ^ 1075 = 4 * 2 ^ 1073 := by rw [show (4 : Nat) = 2 ^ 2 from rfl, ← Nat.pow_add]
    rw [k5]
    generalize (2 : Nat) ^ 1073 = U
    have k6 : E.natAbs * U ≤ (2 ^ 23 + 1) * U := Nat.mul_le_mul_right _ hE0.2
    omega)
  refine ⟨c, q, g1, g2, ?_⟩
  unfold FP.Core.distance at g3
  have u2 : FP.Core.inUnits E.natAbs (-1) (-1074) = E.natAbs * 2 ^ 1073 := rfl
  have u3 : FP.Core.inUnits c q (-1074) = c * 2 ^ (q + 1074).toNat := by
    unfold FP.Core.inUnits
    rw [show q - -1074 = q + 1074 from by omega]
  rw [uN, u2, u3] at g3
  generalize E.natAbs * 2 ^ 1073 = V at g3 ⊢
  generalize c * 2 ^ (q + 1074).toNat = Y at g3 ⊢
  omega
/-- two that are alike, one a number: one and the same -/
theorem fl_alike {r x : UInt64} (h : alike64 r x = true) (hx : ¬ FP.Core.val64 x = .nan) : r = x := by
  simp only [alike64, Bool.or_eq_true, Bool.and_eq_true, decide_eq_true_eq] at h
  rcases h with h | ⟨-, h⟩
  · exact h
  · exfalso
    rw [isNaN64_iff] at h
    have e : (0x7fffffffffffffff : Nat) = 2 ^ 63 - 1 := by decide
    rw [e, Nat.and_two_pow_sub_one_eq_mod] at h
    have hE : FP.Core.fieldE FP.Core.b64 x.toNat = FP.Core.b64.exps - 1 := by
      show x.toNat / 4503599627370496 % 2048 = 2047
      omega
    have hT : ¬ FP.Core.fieldT FP.Core.b64 x.toNat = 0 := by
      show ¬ x.toNat % 4503599627370496 = 0
      omega
    refine hx ?_
    unfold FP.Core.val64 FP.Core.decode
    rw [if_pos hE, if_neg hT]
theorem fl_fin {x : UInt64} {s : Bool} {c : Nat} {q : Int} (h : FP.Core.val64 x = .fin s c q) : ¬ FP.Core.val64 x = .nan := by
  rw [h]
  exact fun q => nomatch q
theorem fl_zv {x : UInt64} {s : Bool} {c : Nat} {q : Int} (h : FP.Core.val64 x = .fin s c q) : FP.Core.zval FP.Core.b64 (FP.Core.val64 x) = FP.Core.signed s (c * 2 ^ (q + 1074).toNat) := by
  rw [h]
  show FP.Core.signed s (c * 2 ^ (q - -1074).toNat) = _
  rw [show q - -1074 = q + 1074 from by omega]
theorem fl_dcmp {x y : UInt64} (hx : ¬ FP.Core.val64 x = .nan) (hy : ¬ FP.Core.val64 y = .nan) : FP.dcmp x y = some (compare (FP.Core.zval FP.Core.b64 (FP.Core.val64 x)) (FP.Core.zval FP.Core.b64 (FP.Core.val64 y))) := FP.Core.dcmp_zval hx hy
theorem fl_sg (x : Int) : FP.Core.signed (decide (x < 0)) x.natAbs = x := by
  unfold FP.Core.signed
  by_cases h : x < 0
  · rw [decide_eq_true h, if_pos rfl]
    omega
  · rw [decide_eq_false h, if_neg (by decide)]
    omega
/-- the mean of n errors, times n, lies between their sum less a half and their sum and a half -/
theorem fl_all {e : Int32} {n : Nat} {r p : UInt64} (hn : n ≤ 8) (h0 : n = 0 → e = 0) (ha : e.toInt.natAbs ≤ 2 ^ 22) (h1 : alike64 r (mErr n e) = true) (h2 : alike64 p (FP.dmul r (FP.i2d (nI n))) = true) :
    (∀ q : UInt64, alike64 q (FP.dadd (FP.i2d e) fHalf) = true → FP.dcmp p q = some .lt) ∧ (∀ q : UInt64, alike64 q (FP.dsub (FP.i2d e) fHalf) = true → FP.dcmp p q = some .gt) := by
  have hT := Nat.two_pow_pos 1054
  have hP : (2 : Nat) ^ 1074 = 2 ^ 20 * 2 ^ 1054 := by rw [← Nat.pow_add]
  have hU : (2 : Nat) ^ 1073 = 2 ^ 19 * 2 ^ 1054 := by rw [← Nat.pow_add]
  -- p in units
  have hp : ¬ FP.Core.val64 p = .nan ∧ FP.Core.zval FP.Core.b64 (FP.Core.val64 p) - e.toInt * ((2 ^ 1074 : Nat) : Int) ≤ ((16 * 2 ^ 1054 : Nat) : Int) ∧ e.toInt * ((2 ^ 1074 : Nat) : Int) - FP.Core.zval FP.Core.b64 (FP.Core.val64 p) ≤ ((16 * 2 ^ 1054 : Nat) : Int) := by
    by_cases hz : n = 0
    · subst hz
      have e0 := h0 rfl
      subst e0
      have r0 : r = 0 := fl_alike (x := 0) (by
        rw [mErr, if_pos rfl] at h1
        exact h1) (by decide +kernel)
      subst r0
      have v0 : FP.dmul 0 (FP.i2d (nI 0)) = 0 := by decide +kernel
      rw [v0] at h2
      have p0 : p = 0 := fl_alike h2 (by decide +kernel)
      subst p0
      have v1 : FP.Core.val64 0 = .fin false 0 (-1074) := by decide +kernel
      rw [fl_zv v1]
      have e9 : (0 : Int32).toInt = 0 := by decide
      rw [e9, Int.zero_mul, Nat.zero_mul]
      refine ⟨fl_fin v1, ?_, ?_⟩
      · show (0 : Int) - 0 ≤ _
        omega
      · show (0 : Int) - 0 ≤ _
        omega
    · obtain ⟨c, q, d1, d2, d3, d4⟩ := fl_div (e := e) (n := n) (by omega) hn ha
      rw [mErr, if_neg hz] at h1
      have r1 := fl_alike h1 (fl_fin d1)
      rw [← r1] at d1
      obtain ⟨c1, q1, m1, m2, m3, m4⟩ := fl_mul (by omega) hn ha d1 d2 d3 d4
      have p1 := fl_alike h2 (fl_fin m1)
      rw [← p1] at m1
      refine ⟨fl_fin m1, ?_⟩
      rw [fl_zv m1]
      have z1 : e.toInt * ((2 ^ 1074 : Nat) : Int) = FP.Core.signed (decide (e.toInt < 0)) (e.toInt.natAbs * 2 ^ 1074) := by
        rw [FP.Core.signed_mul, fl_sg]
      rw [z1]
      generalize c1 * 2 ^ (q1 + 1074).toNat = Y at m3 m4 ⊢
      generalize e.toInt.natAbs * 2 ^ 1074 = V at m3 m4 ⊢
      unfold FP.Core.signed
      split <;> omega
  obtain ⟨hp0, hp1, hp2⟩ := hp
  have key : ∀ (t : Bool) (q : UInt64), FP.Core.val64 q = FP.Core.round FP.Core.b64 (FP.Core.exactSum (FP.Core.val64 (FP.i2d e)) (.fin t (2 ^ 52) (-53))) → ¬ FP.Core.val64 q = .nan ∧ FP.Core.zval FP.Core.b64 (FP.Core.val64 q) = (2 * e.toInt + (if t = true then -1 else 1)) * ((2 ^ 1073 : Nat) : Int) := by
    intro t q hq
    obtain ⟨c, q1, g1, g2, g3⟩ := fl_half t ha
    rw [g1] at hq
    refine ⟨fl_fin hq, ?_⟩
    rw [fl_zv hq, g3, FP.Core.signed_mul, fl_sg]
  have nn : ∀ (t : Bool) (q : UInt64), FP.Core.val64 q = FP.Core.round FP.Core.b64 (FP.Core.exactSum (FP.Core.val64 (FP.i2d e)) (.fin t (2 ^ 52) (-53))) → ¬ FP.Core.val64 q = .nan := fun t q h => (key t q h).1
  constructor
  · intro q hq
    have v := FP.Core.val64_dadd (FP.i2d e) fHalf
    rw [val_half] at v
    have v : FP.Core.val64 (FP.dadd (FP.i2d e) fHalf) = FP.Core.round FP.Core.b64 (FP.Core.exactSum (FP.Core.val64 (FP.i2d e)) (.fin false (2 ^ 52) (-53))) := v
    have q1 := fl_alike hq (nn false _ v)
    rw [← q1] at v
    obtain ⟨k1, k2⟩ := key false q v
    rw [fl_dcmp hp0 k1, k2]
    refine congrArg some ?_
    rw [FP.Core.compare_ite]
    rw [if_pos]
    rw [if_neg (by decide), hU]
    rw [hP] at hp1 hp2
    generalize FP.Core.zval FP.Core.b64 (FP.Core.val64 p) = z at *
    generalize (2 : Nat) ^ 1054 = T at *
    have w1 : e.toInt * ((2 ^ 20 * T : Nat) : Int) = 1048576 * (e.toInt * (T : Int)) := by
      rw [Int.natCast_mul, ← Int.mul_assoc, Int.mul_comm e.toInt, Int.mul_assoc]
      rfl
    have w2 : (2 * e.toInt + 1) * ((2 ^ 19 * T : Nat) : Int) = 1048576 * (e.toInt * (T : Int)) + 524288 * (T : Int) := by
      rw [Int.add_mul, Int.one_mul, Int.natCast_mul]
      have : 2 * e.toInt * (((2 ^ 19 : Nat) : Int) * (T : Int)) = 1048576 * (e.toInt * (T : Int)) := by
        rw [show 2 * e.toInt * (((2 ^ 19 : Nat) : Int) * (T : Int)) = (2 * ((2 ^ 19 : Nat) : Int)) * (e.toInt * (T : Int)) from by ac_rfl]
        rfl
      rw [this]
      rfl
    rw [w2]
    rw [w1] at hp1 hp2
    generalize e.toInt * (T : Int) = G at *
    omega
  · intro q hq
    have v := FP.Core.val64_dsub (FP.i2d e) fHalf
    rw [val_half] at v
    have v : FP.Core.val64 (FP.dsub (FP.i2d e) fHalf) = FP.Core.round FP.Core.b64 (FP.Core.exactSum (FP.Core.val64 (FP.i2d e)) (.fin true (2 ^ 52) (-53))) := v
    have q1 := fl_alike hq (nn true _ v)
    rw [← q1] at v
    obtain ⟨k1, k2⟩ := key true q v
    rw [fl_dcmp hp0 k1, k2]
    refine congrArg some ?_
    rw [FP.Core.compare_ite]
    rw [if_pos rfl, hU]
    rw [hP] at hp1 hp2
    generalize FP.Core.zval FP.Core.b64 (FP.Core.val64 p) = z at *
    generalize (2 : Nat) ^ 1054 = T at *
    have w1 : e.toInt * ((2 ^ 20 * T : Nat) : Int) = 1048576 * (e.toInt * (T : Int)) := by
      rw [Int.natCast_mul, ← Int.mul_assoc, Int.mul_comm e.toInt, Int.mul_assoc]
      rfl
    have w2 : (2 * e.toInt + -1) * ((2 ^ 19 * T : Nat) : Int) = 1048576 * (e.toInt * (T : Int)) + -(524288 * (T : Int)) := by
      rw [Int.add_mul, Int.neg_mul, Int.one_mul, Int.natCast_mul]
      have : 2 * e.toInt * (((2 ^ 19 : Nat) : Int) * (T : Int)) = 1048576 * (e.toInt * (T : Int)) := by
        rw [show 2 * e.toInt * (((2 ^ 19 : Nat) : Int) * (T : Int)) = (2 * ((2 ^ 19 : Nat) : Int)) * (e.toInt * (T : Int)) from by ac_rfl]
        rfl
      rw [this]
      rfl
    rw [w2]
    rw [w1] at hp1 hp2
    generalize e.toInt * (T : Int) = G at *
    rw [if_neg (by omega), if_neg (by omega)]
-- the sum of errors in its range
theorem e_sum {z : StV} (h : zL z) : ∀ k, k ≤ z.2.2.2.2.2.2.1 → k ≤ 8 → (errS z.2.2.2.2.2.2.2.2.1 z.2.2.2.2.2.2.2.2.2.2 k).toInt.natAbs ≤ 393216 * k
  | 0, _, _ => Nat.le_of_ble_eq_true rfl
  | k + 1, hk, hk8 => by
    have ih := e_sum h k (by omega) (by omega)
    obtain ⟨a1, -, a3, -⟩ := h.2 k (by omega)
    rw [errS]
    generalize errS z.2.2.2.2.2.2.2.2.1 z.2.2.2.2.2.2.2.2.2.2 k = x at *
    generalize z.2.2.2.2.2.2.2.2.2.2 k = c at *
    generalize z.2.2.2.2.2.2.2.2.1 k = v at *
    have e16 : (16 : Int32).toInt = 16 := by decide
    have m1 : (16 * c).toInt = 16 * c.toInt := by rw [i_mul (by rw [e16]; omega) (by rw [e16]; omega), e16]
    have m2 : (16 * c - v).toInt = 16 * c.toInt - v.toInt := by rw [i_sub (by rw [m1]; omega) (by rw [m1]; omega), m1]
    rw [i_add (by rw [m2]; omega) (by rw [m2]; omega), m2]
    omega
theorem iff_cases {p q : Prop} (h : p ↔ q) : (p ∧ q) ∨ (¬ p ∧ ¬ q) := by
  by_cases a : p
  · exact Or.inl ⟨a, h.mp a⟩
  · exact Or.inr ⟨a, fun b => a (h.mpr b)⟩
