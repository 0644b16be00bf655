/-! pure functions that both sides are tied to -/
theorem k_incN (k n : Nat) : nI k + nI n = nI (k + n) := nI_add k n
theorem k_dec1 (k : Nat) (h : 1 ≤ k) : nI k + Int32.ofInt (-1) = nI (k - 1) := by
  obtain ⟨j, rfl⟩ : ∃ j, k = j + 1 := ⟨k - 1, by omega⟩
  exact k_dec j
theorem k_min {a b : Nat} (ha : a < 2 ^ 31) (hb : b < 2 ^ 31) : (if nI b < nI a then nI b else nI a) = nI (min a b) := by
  by_cases h : b < a
  · rw [if_pos ((nI_ltI hb ha).mpr h)]
    congr 1
    omega
  · rw [if_neg (fun q => h ((nI_ltI hb ha).mp q))]
    congr 1
    omega
theorem i_lt {a b : Int32} : a < b ↔ a.toInt < b.toInt := Int32.lt_iff_toInt_lt
theorem i_le {a b : Int32} : a ≤ b ↔ a.toInt ≤ b.toInt := Int32.le_iff_toInt_le
theorem i_eq {a b : Int32} : a = b ↔ a.toInt = b.toInt := Int32.toInt_inj.symm
def hTick (v leak : Int32) : Int32 := v - v * leak / 4096
def hBit (x b : Int32) : Int32 := if (x >>> (b &&& 31)) &&& 1 = 0 then 0 else 1
def sTick (v inp rate : Int32) : Int32 := if (inp - v) * rate / 16 = 0 then (if v < inp then v + 1 else if inp < v then v + (-1) else v) else v + (inp - v) * rate / 16
def wDig (a b : Int32) : Int32 := 10 * a + (b - 48)
def mixD (h : Int64) (v : Int32) : Int64 := 31 * h + v.toInt64
theorem sTick1 {v inp rate : Int32} (h : ¬ (inp - v) * rate / 16 = 0) : v + (inp - v) * rate / 16 = sTick v inp rate := by
  rw [sTick, if_neg h]
theorem sTick2 {v inp rate : Int32} (h : (inp - v) * rate / 16 = 0) (h2 : inp = v) : v + (inp - v) * rate / 16 = sTick v inp rate := by
  rw [sTick, if_pos h, h, if_neg (by rw [h2, i_lt]; omega), if_neg (by rw [h2, i_lt]; omega), Int32.add_zero]
theorem sTick3 {v inp rate : Int32} (h : (inp - v) * rate / 16 = 0) (h1 : ¬ inp = v) (h2 : inp ≤ v) : v + (-1) = sTick v inp rate := by
  rw [i_eq] at h1
  rw [i_le] at h2
  rw [sTick, if_pos h, if_neg (by rw [i_lt]; omega), if_pos (by rw [i_lt]; omega)]
theorem sTick4 {v inp rate : Int32} (h : (inp - v) * rate / 16 = 0) (h1 : ¬ inp = v) (h2 : ¬ inp ≤ v) : v + 1 = sTick v inp rate := by
  rw [i_eq] at h1
  rw [i_le] at h2
  rw [sTick, if_pos h, if_pos (by rw [i_lt]; omega)]
-- the weights
def sumW (f : Nat → Int32) : Nat → Int32
  | 0 => 0
  | k + 1 => sumW f k + f k
def rnk (f : Nat → Int32) (i : Nat) : Nat → Nat
  | 0 => 0
  | k + 1 => rnk f i k + if f i < f k ∨ (f k = f i ∧ k < i) then 1 else 0
theorem rnk_le (f : Nat → Int32) (i : Nat) : ∀ n, rnk f i n ≤ n
  | 0 => Nat.le_refl 0
  | n + 1 => by
    have := rnk_le f i n
    simp only [rnk]
    split <;> omega
def misp (f : Nat → Int32) (n : Nat) : Nat → Nat
  | 0 => 0
  | k + 1 => misp f n k + if rnk f k n = k then 0 else 1
def insA (f : Nat → Int32) (i n : Nat) (x : Int32) : Nat → Int32 := fun j => if j < i then f j else if j = i then x else if j ≤ n then f (j - 1) else f j
def delA (f : Nat → Int32) (i n : Nat) : Nat → Int32 := fun j => if i ≤ j ∧ j < n - 1 then f (j + 1) else f j
def insG (g : Nat → Int32) (x : Int32) : Nat → (Nat → Int32)
  | 0 => upd g 0 x
  | k + 1 => if g k < x then insG (upd g (k + 1) (g k)) x k else upd g (k + 1) x
theorem insG_z {g : Nat → Int32} {x : Int32} {j : Nat} (h : j = 0) : insG g x j = upd g j x := by
  subst h
  rfl
theorem insG_step {g : Nat → Int32} {x : Int32} {j : Nat} (hj : 1 ≤ j) (h : ¬ x ≤ g (j - 1)) : insG g x j = insG (upd g j (g (j - 1))) x (j - 1) := by
  obtain ⟨k, rfl⟩ : ∃ k, j = k + 1 := ⟨j - 1, by omega⟩
  rw [Nat.add_sub_cancel] at h ⊢
  rw [insG, if_pos (by rw [i_le] at h; rw [i_lt]; omega)]
theorem insG_stop {g : Nat → Int32} {x : Int32} {j : Nat} (hj : 1 ≤ j) (h : x ≤ g (j - 1)) : insG g x j = upd g j x := by
  obtain ⟨k, rfl⟩ : ∃ k, j = k + 1 := ⟨j - 1, by omega⟩
  rw [Nat.add_sub_cancel] at h
  rw [insG, if_neg (by rw [i_le] at h; rw [i_lt]; omega)]
def srtG (f : Nat → Int32) : Nat → (Nat → Int32)
  | 0 => f
  | k + 1 => insG (srtG f k) (srtG f k (k + 1)) (k + 1)
def errS (fv fc : Nat → Int32) : Nat → Int32
  | 0 => 0
  | k + 1 => errS fv fc k + (16 * fc k - fv k)
def shF (f : Nat → Int32) (x : Int32) : Nat → Int32 := fun j => if j = 0 then x else f (j - 1)
-- the sums
def wN (x : Int32) : Nat := x.toInt.toNat
theorem nI_wN {x : Int32} (h : 0 ≤ x.toInt) : nI (wN x) = x := by
  rw [i_eq, nI_toInt (by have := x.toInt_lt; unfold wN; omega), wN]
  omega
theorem wN_le {x : Int32} {n : Nat} (h : x.toInt ≤ n) : wN x ≤ n := by
  unfold wN
  omega
theorem k_m1I {k : Nat} (h : k < 2 ^ 31) : (nI k + (-1)).toInt = (k : Int) - 1 := by
  rcases Nat.eq_zero_or_pos k with q | q
  · subst q
    decide
  · obtain ⟨j, rfl⟩ : ∃ j, k = j + 1 := ⟨k - 1, by omega⟩
    rw [pk_m1, nI_toInt (by omega)]
    omega
def shV (wd : Nat → Int64) (n w : Nat) : Int64 :=
  if 0 < n % 64 ∧ n / 64 < w then (wd (w - n / 64) <<< ((nI (n % 64) : Int32).toInt64 &&& 63)) ||| ((wd (w - n / 64 - 1)).toUInt64 >>> ((nI (64 - n % 64) : Int32).toInt64.toUInt64 &&& Int64.toUInt64 63)).toInt64
  else wd (w - n / 64) <<< ((nI (n % 64) : Int32).toInt64 &&& 63)
theorem addG_step {g wd : Nat → Int64} {n j : Nat} {val : Int64} (hj : 1 ≤ j) (hj2 : j ≤ 64) (hg : ∀ w, g w = if j ≤ w ∧ w < 64 then wd w ||| shV wd n w else wd w) (hv : val = wd (j - 1) ||| shV wd n (j - 1)) : ∀ w, vp_updL g (j - 1) val w = if j - 1 ≤ w ∧ w < 64 then wd w ||| shV wd n w else wd w := by
  intro w
  rw [vp_updL]
  by_cases e : w = j - 1
  · rw [if_pos e, if_pos (by omega), hv, e]
  · rw [if_neg e, hg]
    by_cases q : j ≤ w ∧ w < 64
    · rw [if_pos q, if_pos (by omega)]
    · rw [if_neg q, if_neg (by omega)]
def addG (wd : Nat → Int64) (n : Nat) : Nat → Int64 := fun w => if n / 64 ≤ w then wd w ||| shV wd n w else wd w
def oneL : Nat → Int64 := fun w => if w = 0 then 1 else 0
def fillG (f : Nat → Int32) : Nat → (Nat → Int64)
  | 0 => oneL
  | k + 1 => addG (fillG f k) (wN (f k))
def bitC (x : Int64) : Int32 :=
  let a1 := x - ((x.toUInt64 >>> ((1 : Int32).toInt64.toUInt64 &&& Int64.toUInt64 63)).toInt64 &&& 6148914691236517205)
  let a2 := (a1 &&& 3689348814741910323) + ((a1.toUInt64 >>> ((2 : Int32).toInt64.toUInt64 &&& Int64.toUInt64 63)).toInt64 &&& 3689348814741910323)
  let a3 := (a2 + (a2.toUInt64 >>> ((4 : Int32).toInt64.toUInt64 &&& Int64.toUInt64 63)).toInt64) &&& 1085102592571150095
  let a4 := a3 + (a3.toUInt64 >>> ((8 : Int32).toInt64.toUInt64 &&& Int64.toUInt64 63)).toInt64
  let a5 := a4 + (a4.toUInt64 >>> ((16 : Int32).toInt64.toUInt64 &&& Int64.toUInt64 63)).toInt64
  let a6 := a5 + (a5.toUInt64 >>> ((32 : Int32).toInt64.toUInt64 &&& Int64.toUInt64 63)).toInt64
  a6.toInt32 &&& 127
def cntL (wd : Nat → Int64) : Nat → Int32
  | 0 => 0
  | k + 1 => cntL wd k + bitC (wd k)
theorem k_cmp0 {x y : Int64} : lg_cmp x y = 0 ↔ x = y := by
  unfold lg_cmp
  by_cases h1 : y < x
  · rw [if_pos h1]
    constructor
    · intro h
      exact absurd h (by decide)
    · intro h
      rw [h, Int64.lt_iff_toInt_lt] at h1
      omega
  · rw [if_neg h1]
    by_cases h2 : x = y
    · rw [if_pos h2]
      exact ⟨fun _ => h2, fun _ => rfl⟩
    · rw [if_neg h2]
      constructor
      · intro h
        exact absurd h (by decide)
      · intro h
        exact absurd h h2
def bitL (wd : Nat → Int64) (k : Nat) : Int64 := (wd (k / 64) >>> ((nI (k % 64) : Int32).toInt64 &&& 63)) &&& 1
def lmGo (wd : Nat → Int64) : Nat → Nat → Nat
  | 0, k => k
  | n + 1, k => if bitL wd k = 0 then k else lmGo wd n (k + 1)
theorem lmGo_step {wd : Nat → Int64} {k : Nat} (h : k < 4096) : lmGo wd (4096 - k) k = if bitL wd k = 0 then k else lmGo wd (4096 - (k + 1)) (k + 1) := by
  rw [show 4096 - k = (4096 - (k + 1)) + 1 from by omega, lmGo]
-- the weighing
def wgT (x : Int32 × Int32 × Int32) (w leak off gl : Int32) (k : Nat) : Int32 × Int32 × Int32 :=
  if (if 16 * (x.2.2 + w) ≤ hTick x.1 leak + off then (1 : Int32) else 0) = hBit gl (nI k) then (hTick x.1 leak, x.2.1, x.2.2) else (hTick x.1 leak, x.2.1 ||| ((1 : Int32) <<< (nI k &&& 31)), x.2.2 + w)
def wgS (f : Nat → Int32) (leak off gl v0 : Int32) : Nat → Int32 × Int32 × Int32
  | 0 => (v0, 0, 0)
  | k + 1 => wgT (wgS f leak off gl v0 k) (f k) leak off gl k
theorem wgT_a {v kp cd w leak off gl : Int32} {k : Nat} (h1 : hTick v leak + off < 16 * (cd + w)) (h2 : 0 = hBit gl (nI k)) : (hTick v leak, kp, cd) = wgT (v, kp, cd) w leak off gl k := by
  rw [wgT, if_neg (show ¬ 16 * (cd + w) ≤ hTick v leak + off from by rw [i_le]; rw [i_lt] at h1; omega), if_pos h2]
theorem wgT_b {v kp cd w leak off gl : Int32} {k : Nat} (h1 : hTick v leak + off < 16 * (cd + w)) (h2 : ¬ 0 = hBit gl (nI k)) : (hTick v leak, kp ||| ((1 : Int32) <<< (nI k &&& 31)), cd + w) = wgT (v, kp, cd) w leak off gl k := by
  rw [wgT, if_neg (show ¬ 16 * (cd + w) ≤ hTick v leak + off from by rw [i_le]; rw [i_lt] at h1; omega), if_neg h2]
theorem wgT_c {v kp cd w leak off gl : Int32} {k : Nat} (h1 : ¬ hTick v leak + off < 16 * (cd + w)) (h2 : 1 = hBit gl (nI k)) : (hTick v leak, kp, cd) = wgT (v, kp, cd) w leak off gl k := by
  rw [wgT, if_pos (show 16 * (cd + w) ≤ hTick v leak + off from by rw [i_le]; rw [i_lt] at h1; omega), if_pos h2]
theorem wgT_d {v kp cd w leak off gl : Int32} {k : Nat} (h1 : ¬ hTick v leak + off < 16 * (cd + w)) (h2 : ¬ 1 = hBit gl (nI k)) : (hTick v leak, kp ||| ((1 : Int32) <<< (nI k &&& 31)), cd + w) = wgT (v, kp, cd) w leak off gl k := by
  rw [wgT, if_pos (show 16 * (cd + w) ≤ hTick v leak + off from by rw [i_le]; rw [i_lt] at h1; omega), if_neg h2]
-- the text
def eiGo (tx : Nat → Int32) : Nat → Nat → Int32 → Int32 → Nat
  | 0, at_, _, _ => at_
  | n + 1, at_, size, wb =>
    if tx at_ = 44 then (if size = 0 then at_ else if wb + 1 = 12 then at_ else eiGo tx n (at_ + 1) 0 (wb + 1))
    else if tx at_ < 48 then at_ else if tx at_ ≤ 57 then (if wDig size (tx at_) = 0 then at_ else if wDig size (tx at_) ≤ 2048 then eiGo tx n (at_ + 1) (wDig size (tx at_)) wb else at_) else at_
theorem eiGo_step {tx : Nat → Int32} {tl k : Nat} {size wb : Int32} (h : k < tl) : eiGo tx (tl - k) k size wb =
    if tx k = 44 then (if size = 0 then k else if wb + 1 = 12 then k else eiGo tx (tl - (k + 1)) (k + 1) 0 (wb + 1))
    else if tx k < 48 then k else if tx k ≤ 57 then (if wDig size (tx k) = 0 then k else if wDig size (tx k) ≤ 2048 then eiGo tx (tl - (k + 1)) (k + 1) (wDig size (tx k)) wb else k) else k := by
  rw [show tl - k = (tl - (k + 1)) + 1 from by omega, eiGo]
theorem eiGo_le1 (tx : Nat → Int32) : ∀ (n k : Nat) (size wb : Int32), eiGo tx n k size wb ≤ k + n
  | 0, k, _, _ => Nat.le_refl k
  | n + 1, k, size, wb => by
    have h1 := eiGo_le1 tx n (k + 1) 0 (wb + 1)
    have h2 := eiGo_le1 tx n (k + 1) (wDig size (tx k)) wb
    rw [eiGo]
    repeat' split
    all_goals omega
theorem eiGo_le (tx : Nat → Int32) (tl : Nat) : eiGo tx tl 0 0 0 ≤ tl := by
  have h := eiGo_le1 tx tl 0 0 0
  omega
def isC (tx : Nat → Int32) (tl : Nat) : Int32 := if 0 < tl ∧ ¬ tx (tl - 1) = 44 ∧ eiGo tx tl 0 0 0 = tl then 1 else 0
def wrS (tx f : Nat → Int32) : Nat → Nat × (Nat → Int32) × Int32
  | 0 => (0, f, 0)
  | k + 1 => if tx k = 44 then ((wrS tx f k).1 + 1, insA (wrS tx f k).2.1 (wrS tx f k).1 (wrS tx f k).1 (wrS tx f k).2.2, 0) else ((wrS tx f k).1, (wrS tx f k).2.1, wDig (wrS tx f k).2.2 (tx k))
-- the saved states
def rgOK (rg : Nat → Option Nat) (a0 a1 a2 a3 a4 a5 : Nat) : Prop := rg 0 = some a0 ∧ rg 1 = some a1 ∧ rg 2 = some a2 ∧ rg 3 = some a3 ∧ rg 4 = some a4 ∧ rg 5 = some a5
def updS (S : Nat → StV) (k : Nat) (z : StV) : Nat → StV := fun j => if j = k then z else S j
