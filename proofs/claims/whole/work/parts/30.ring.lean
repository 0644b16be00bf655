/-! the saved states: the class's ring beside the model's list; states after a change -/
def sR (z y : StV) : Prop := zR z y ∧ zW z
def rgR (nx cnt : Nat) (S T : Nat → StV) : Prop := nx < 6 ∧ cnt ≤ 6 ∧ ∀ j, j < cnt → sR (S ((nx + 6 - cnt + j) % 6)) (T j)
theorem rgR_0 (S T : Nat → StV) : rgR 0 0 S T := ⟨by omega, by omega, fun j h => by omega⟩
theorem rgR_push {nx cnt : Nat} {S T : Nat → StV} {z y : StV} (h : rgR nx cnt S T) (hz : sR z y) : rgR ((nx + 1) % 6) (min (cnt + 1) 6) (updS S nx z) (svS T cnt y) := by
  obtain ⟨h1, h2, h3⟩ := h
  refine ⟨by omega, by omega, fun j hj => ?_⟩
  by_cases c : cnt = 6
  · rw [svS, if_pos c]
    by_cases q : j = 5
    · rw [show ((nx + 1) % 6 + 6 - min (cnt + 1) 6 + j) % 6 = nx from by omega, updS, if_pos rfl, updS, if_pos q]
      exact hz
    · have e : ((nx + 1) % 6 + 6 - min (cnt + 1) 6 + j) % 6 = (nx + 6 - cnt + (j + 1)) % 6 := by omega
      rw [e, updS, if_neg (by omega), updS, if_neg q]
      show sR _ (if j < 5 then T (j + 1) else T j)
      rw [if_pos (by omega)]
      exact h3 (j + 1) (by omega)
  · rw [svS, if_neg c]
    by_cases q : j = cnt
    · rw [show ((nx + 1) % 6 + 6 - min (cnt + 1) 6 + j) % 6 = nx from by omega, updS, if_pos rfl, updS, if_pos q]
      exact hz
    · have e : ((nx + 1) % 6 + 6 - min (cnt + 1) 6 + j) % 6 = (nx + 6 - cnt + j) % 6 := by omega
      rw [e, updS, if_neg (by omega), updS, if_neg q]
      exact h3 j (by omega)
theorem rgR_pop {nx cnt : Nat} {S T : Nat → StV} (h : rgR nx cnt S T) (hc : 1 ≤ cnt) : rgR ((nx + 5) % 6) (cnt - 1) S T ∧ sR (S ((nx + 5) % 6)) (T (cnt - 1)) := by
  obtain ⟨h1, h2, h3⟩ := h
  refine ⟨⟨by omega, by omega, fun j hj => ?_⟩, ?_⟩
  · have e : ((nx + 5) % 6 + 6 - (cnt - 1) + j) % 6 = (nx + 6 - cnt + j) % 6 := by omega
    rw [e]
    exact h3 j (by omega)
  · have := h3 (cnt - 1) (by omega)
    rw [show (nx + 6 - cnt + (cnt - 1)) % 6 = (nx + 5) % 6 from by omega] at this
    exact this
-- one part changed on both sides
theorem sR_v {z y : StV} {v : Int32} (h : sR z y) (hv : 0 ≤ v.toInt ∧ v.toInt ≤ 65535) : sR (v, z.2) (v, y.2) := ⟨⟨rfl, h.1.2⟩, ⟨hv, h.2.2⟩⟩
theorem sR_cap {z y : StV} {r l : Int32} (h : sR z y) (hr : 1 ≤ r.toInt ∧ r.toInt ≤ 16) (hl : 0 ≤ l.toInt ∧ l.toInt ≤ 64) : sR (z.1, r, l, z.2.2.2) (y.1, r, l, y.2.2.2) := ⟨⟨h.1.1, rfl, rfl, h.1.2.2.2⟩, ⟨h.2.1, hr, hl, h.2.2.2.2⟩⟩
theorem sR_off {z y : StV} {o : Int32} (h : sR z y) : sR (z.1, z.2.1, z.2.2.1, o, z.2.2.2.2) (y.1, y.2.1, y.2.2.1, o, y.2.2.2.2) := ⟨⟨h.1.1, h.1.2.1, h.1.2.2.1, rfl, h.1.2.2.2.2⟩, h.2⟩
theorem sR_gl {z y : StV} {g : Int32} (h : sR z y) : sR (z.1, z.2.1, z.2.2.1, z.2.2.2.1, g, z.2.2.2.2.2) (y.1, y.2.1, y.2.2.1, y.2.2.2.1, g, y.2.2.2.2.2) := ⟨⟨h.1.1, h.1.2.1, h.1.2.2.1, h.1.2.2.2.1, rfl, h.1.2.2.2.2.2⟩, h.2⟩
/-- the weights changed on both sides -/
theorem sR_w {z y : StV} {n : Nat} {f g : Nat → Int32} (h : sR z y) (hn : 1 ≤ n ∧ n ≤ 12) (hf : ∀ k, k < n → f k = g k) (hr : ∀ k, k < n → 1 ≤ (f k).toInt ∧ (f k).toInt ≤ 2048) :
    sR (z.1, z.2.1, z.2.2.1, z.2.2.2.1, z.2.2.2.2.1, n, z.2.2.2.2.2.2.1, f, z.2.2.2.2.2.2.2.2) (y.1, y.2.1, y.2.2.1, y.2.2.2.1, y.2.2.2.2.1, n, y.2.2.2.2.2.2.1, g, y.2.2.2.2.2.2.2.2) :=
  ⟨⟨h.1.1, h.1.2.1, h.1.2.2.1, h.1.2.2.2.1, h.1.2.2.2.2.1, rfl, h.1.2.2.2.2.2.2.1, hf, h.1.2.2.2.2.2.2.2.2⟩, ⟨h.2.1, h.2.2.1, h.2.2.2.1, hn, h.2.2.2.2.2.1, hr⟩⟩
theorem set_eq {f g : Nat → Int32} {i n : Nat} {x : Int32} (h : ∀ k, k < n → f k = g k) : ∀ k, k < n → upd f i x k = upd g i x k := by
  intro k hk
  rw [upd, upd, h k hk]
theorem set_rg {f : Nat → Int32} {i n : Nat} {x : Int32} (h : ∀ k, k < n → 1 ≤ (f k).toInt ∧ (f k).toInt ≤ 2048) (hx : 1 ≤ x.toInt ∧ x.toInt ≤ 2048) : ∀ k, k < n → 1 ≤ (upd f i x k).toInt ∧ (upd f i x k).toInt ≤ 2048 := by
  intro k hk
  rw [upd]
  split
  · exact hx
  · exact h k hk
theorem ins_eq {f g : Nat → Int32} {i n : Nat} {x : Int32} (hi : i ≤ n) (h : ∀ k, k < n → f k = g k) : ∀ k, k < n + 1 → insA f i n x k = insA g i n x k := by
  intro k hk
  rw [insA, insA]
  by_cases a : k < i
  · rw [if_pos a, if_pos a, h k (by omega)]
  · rw [if_neg a, if_neg a]
    by_cases b : k = i
    · rw [if_pos b, if_pos b]
    · rw [if_neg b, if_neg b, if_pos (by omega), if_pos (by omega), h (k - 1) (by omega)]
theorem ins_rg {f : Nat → Int32} {i n : Nat} {x : Int32} (hi : i ≤ n) (h : ∀ k, k < n → 1 ≤ (f k).toInt ∧ (f k).toInt ≤ 2048) (hx : 1 ≤ x.toInt ∧ x.toInt ≤ 2048) : ∀ k, k < n + 1 → 1 ≤ (insA f i n x k).toInt ∧ (insA f i n x k).toInt ≤ 2048 := by
  intro k hk
  rw [insA]
  by_cases a : k < i
  · rw [if_pos a]
    exact h k (by omega)
  · rw [if_neg a]
    by_cases b : k = i
    · rw [if_pos b]
      exact hx
    · rw [if_neg b, if_pos (by omega)]
      exact h (k - 1) (by omega)
theorem del_eq {f g : Nat → Int32} {i n : Nat} (h : ∀ k, k < n → f k = g k) : ∀ k, k < n - 1 → delA f i n k = delM g i n k := by
  intro k hk
  have e : ¬ k = n - 1 := by omega
  rw [delA, delM]
  by_cases a : i ≤ k ∧ k < n - 1
  · rw [if_pos a, if_neg e, if_pos a, h (k + 1) (by omega)]
  · rw [if_neg a, if_neg e, if_neg a, h k (by omega)]
theorem del_rg {f : Nat → Int32} {i n : Nat} (h : ∀ k, k < n → 1 ≤ (f k).toInt ∧ (f k).toInt ≤ 2048) : ∀ k, k < n - 1 → 1 ≤ (delA f i n k).toInt ∧ (delA f i n k).toInt ≤ 2048 := by
  intro k hk
  rw [delA]
  split
  · exact h (k + 1) (by omega)
  · exact h k (by omega)
theorem rkF_cg {f g so : Nat → Int32} {n : Nat} (h : ∀ k, k < n → f k = g k) : ∀ k, k < n → rkF f n so k = rkF g n so k := by
  have e : ∀ m, m ≤ n → rkS f n so m = rkS g n so m := by
    intro m
    induction m with
    | zero => intro _; rfl
    | succ m ih =>
      intro hm
      rw [rkS, rkS, ih (by omega), rnk_cg (h m (by omega)) n h, h m (by omega)]
  intro k hk
  rw [rkF, rkF, if_pos hk, if_pos hk, e n (Nat.le_refl _)]
theorem srt_eq {f g so : Nat → Int32} {n : Nat} (hn : 1 ≤ n) (h : ∀ k, k < n → f k = g k) : ∀ k, k < n → srtG f (n - 1) k = rkF g n so k := fun k hk => (srt_rk hn k hk).trans (rkF_cg h k hk)
theorem srt_rg {f : Nat → Int32} {n : Nat} (hn : 1 ≤ n) (h : ∀ k, k < n → 1 ≤ (f k).toInt ∧ (f k).toInt ≤ 2048) : ∀ k, k < n → 1 ≤ (srtG f (n - 1) k).toInt ∧ (srtG f (n - 1) k).toInt ≤ 2048 := by
  intro k hk
  obtain ⟨i, a, -, c⟩ := srtG_rnk f (n - 1) k (by omega)
  rw [c]
  exact h i (by omega)
-- what is refused, on both sides
theorem inM_ok {v lo hi : Int32} (h : ¬ (v < lo ∨ hi < v)) : inM v lo hi = 1 := by
  rw [inM, if_neg (fun q => h (Or.inl q)), if_neg (fun q => h (Or.inr q))]
theorem inM_no {v lo hi : Int32} (h : v < lo ∨ hi < v) : inM v lo hi = 0 := by
  rw [inM]
  by_cases a : v < lo
  · rw [if_pos a]
  · rw [if_neg a, if_pos (h.resolve_left a)]
theorem i_idx {p : Int32} {n : Nat} (hn : n < 2 ^ 31) (h1 : ¬ p < 0) (h2 : p < nI n) : ∃ i, i < n ∧ p = nI i := by
  have z0 : (0 : Int32).toInt = 0 := by decide
  have e := nI_toInt hn
  rw [i_lt, z0] at h1
  rw [i_lt, e] at h2
  refine ⟨p.toInt.toNat, by omega, ?_⟩
  rw [i_eq, nI_toInt (by omega)]
  omega
theorem i_pre (n : Nat) (hn : n ≤ 4096) : (nI n - 1).toInt = (n : Int) - 1 := by
  have e := nI_toInt (n := n) (by omega)
  have z1 : (1 : Int32).toInt = 1 := by decide
  rw [i_sub (by rw [e, z1]; omega) (by rw [e, z1]; omega), e, z1]
/-- the model's test of an index, where the class refuses -/
theorem idx_no {p : Int32} {n : Nat} (hn : n ≤ 4096) (h : p < 0 ∨ nI n ≤ p) : inM p 0 (nI n - 1) = 0 := by
  refine inM_no ?_
  rcases h with h | h
  · exact Or.inl h
  · right
    have e := i_pre n hn
    have e2 := nI_toInt (n := n) (by omega)
    rw [i_le, e2] at h
    rw [i_lt, e]
    omega
