/-! the class's scan of the text and the model's reading -/
theorem sees_z {tx : Nat → Int32} {ln s : Nat} {lo hi : Int32} (h : tx s < lo ∨ hi < tx s) : seesM tx ln s lo hi = 0 := by
  rw [seesM]
  by_cases q : s < ln
  · rw [if_pos q, inM]
    by_cases a : tx s < lo
    · rw [if_pos a]
    · rw [if_neg a, if_pos (h.resolve_left a)]
  · rw [if_neg q]
theorem sees_nz {tx : Nat → Int32} {ln s : Nat} {lo hi : Int32} (hs : s < ln) (h1 : ¬ tx s < lo) (h2 : ¬ hi < tx s) : ¬ seesM tx ln s lo hi = 0 := by
  rw [seesM, if_pos hs, inM, if_neg h1, if_neg h2]
  decide
theorem wDig_eq (v c : Int32) : 10 * v + c - 48 = wDig v c := by
  rw [wDig, Int32.sub_eq_add_neg, Int32.sub_eq_add_neg, Int32.add_assoc]
theorem wDig_int {v c : Int32} (h1 : 0 ≤ v.toInt) (h2 : v.toInt ≤ 2048) (h3 : 48 ≤ c.toInt) (h4 : c.toInt ≤ 57) : (wDig v c).toInt = 10 * v.toInt + (c.toInt - 48) := by
  have c10 : (10 : Int32).toInt = 10 := by decide
  have c48 : (48 : Int32).toInt = 48 := by decide
  have e1 : (10 * v).toInt = 10 * v.toInt := by rw [i_mul (by rw [c10]; omega) (by rw [c10]; omega), c10]
  have e2 : (c - 48).toInt = c.toInt - 48 := by rw [i_sub (by rw [c48]; omega) (by rw [c48]; omega), c48]
  rw [wDig, i_add (by rw [e1, e2]; omega) (by rw [e1, e2]; omega), e1, e2]
theorem ei_rd (tx : Nat → Int32) (ln wb : Nat) (wbI : Int32) : ∀ (n s : Nat) (v : Int32), s + n = ln → 1 ≤ v.toInt → v.toInt ≤ 2048 → ¬ tx (s - 1) = 44 →
    eiGo tx n s v wbI = (if (rdGo tx ln n v s).2 < ln ∧ tx (rdGo tx ln n v s).2 = 44 then (if wbI + 1 = 12 then (rdGo tx ln n v s).2 else eiGo tx (ln - ((rdGo tx ln n v s).2 + 1)) ((rdGo tx ln n v s).2 + 1) 0 (wbI + 1)) else (rdGo tx ln n v s).2) ∧ s ≤ (rdGo tx ln n v s).2 ∧ (rdGo tx ln n v s).2 ≤ ln ∧ ¬ tx ((rdGo tx ln n v s).2 - 1) = 44 ∧ 1 ≤ (rdGo tx ln n v s).1.toInt ∧ (rdGo tx ln n v s).1.toInt ≤ 2048
  | 0, s, v, hs, h1, h2, hp => by
    rw [rdGo, eiGo]
    refine ⟨?_, Nat.le_refl _, by omega, hp, h1, h2⟩
    rw [if_neg (fun q => by have := q.1; omega)]
  | n + 1, s, v, hs, h1, h2, hp => by
    have z48 : (48 : Int32).toInt = 48 := by decide
    have z57 : (57 : Int32).toInt = 57 := by decide
    have hv0 : ¬ v = 0 := by
      intro q
      rw [q] at h1
      exact absurd h1 (by decide)
    rw [eiGo, rdGo]
    by_cases a : tx s = 44
    · have e : seesM tx ln s 48 57 = 0 := sees_z (Or.inl (by rw [a]; decide))
      rw [if_pos a, if_neg hv0, if_pos e]
      refine ⟨?_, Nat.le_refl _, by omega, hp, h1, h2⟩
      show _ = (if s < ln ∧ tx s = 44 then (if wbI + 1 = 12 then s else eiGo tx (ln - (s + 1)) (s + 1) 0 (wbI + 1)) else s)
      rw [if_pos (show s < ln ∧ tx s = 44 from ⟨by omega, a⟩), show ln - (s + 1) = n from by omega]
    · rw [if_neg a]
      by_cases b : tx s < 48
      · rw [if_pos b, if_pos (sees_z (Or.inl b))]
        refine ⟨?_, Nat.le_refl _, by omega, hp, h1, h2⟩
        rw [if_neg (fun q => a q.2)]
      · rw [if_neg b]
        by_cases c : tx s ≤ 57
        · have b2 : 48 ≤ (tx s).toInt := by
            rw [i_lt, z48] at b
            omega
          have c2 : (tx s).toInt ≤ 57 := by
            rw [i_le, z57] at c
            exact c
          have d := wDig_int (v := v) (c := tx s) (by omega) h2 b2 c2
          have nz : ¬ wDig v (tx s) = 0 := by
            intro q
            rw [q] at d
            have : (0 : Int32).toInt = 0 := by decide
            omega
          rw [if_pos c, if_neg nz, if_neg (sees_nz (by omega) b (by rw [i_lt, z57]; omega)), wDig_eq]
          by_cases k : wDig v (tx s) ≤ 2048
          · rw [if_pos k, if_pos k]
            have k2 : (wDig v (tx s)).toInt ≤ 2048 := by
              rw [i_le] at k
              have : (2048 : Int32).toInt = 2048 := by decide
              omega
            obtain ⟨i1, i2, i3, i4, i5, i6⟩ := ei_rd tx ln wb wbI n (s + 1) (wDig v (tx s)) (by omega) (by omega) k2 (by rw [Nat.add_sub_cancel]; exact a)
            exact ⟨i1, by omega, i3, i4, i5, i6⟩
          · rw [if_neg k, if_neg k]
            refine ⟨?_, Nat.le_refl _, by omega, hp, h1, h2⟩
            rw [if_neg (fun q => a q.2)]
        · have c2 : (57 : Int32) < tx s := by
            rw [i_le] at c
            rw [i_lt]
            omega
          rw [if_neg c, if_pos (sees_z (Or.inr c2))]
          refine ⟨?_, Nat.le_refl _, by omega, hp, h1, h2⟩
          rw [if_neg (fun q => a q.2)]
theorem tk_no {tx : Nat → Int32} {ln s : Nat} (h : s = ln ∨ ¬ tx s = 44) : tkS tx ln s 44 = s := by
  refine tk_0 ?_
  rcases h with h | h
  · exact (sees_0a (by omega)).symm
  · refine sees_z ?_
    rw [i_eq] at h
    rw [i_lt, i_lt]
    omega
theorem tk_yes {tx : Nat → Int32} {ln s : Nat} (hs : s < ln) (h : tx s = 44) : tkS tx ln s 44 = s + 1 := by
  refine tk_1 (sees_nz hs ?_ ?_)
  · rw [h]
    decide
  · rw [h]
    decide
theorem fe_of {ln : Nat} {x : Int32 × Nat × Nat × (Nat → Int32)} : feM ln x = x.2.1 := by
  rw [feM, rtR]
  by_cases h : ¬ x.1 = 0 ∧ x.2.1 = ln
  · rw [if_pos h, if_neg (by decide), h.2]
  · rw [if_neg h, if_pos rfl]
theorem ei_rt_go (tx : Nat → Int32) (ln m at_ wb : Nat) (to : Nat → Int32) (ha : at_ ≤ ln) (hw : wb ≤ 11) (hm : 11 - wb ≤ m)
    (ih : wb < 11 → ∀ (a : Nat) (to2 : Nat → Int32), a ≤ ln → eiGo tx (ln - a) a 0 (nI (wb + 1)) = (rtGo tx ln (m - 1) (rdW tx ln a (wb + 1) to2)).2.1 ∧ rtR ln (rtGo tx ln (m - 1) (rdW tx ln a (wb + 1) to2)) = (if eiGo tx (ln - a) a 0 (nI (wb + 1)) = ln ∧ a < ln ∧ ¬ tx (ln - 1) = 44 then 1 else 0) ∧ (rtGo tx ln (m - 1) (rdW tx ln a (wb + 1) to2)).2.2.1 ≤ 12) :
    eiGo tx (ln - at_) at_ 0 (nI wb) = (rtGo tx ln m (rdW tx ln at_ wb to)).2.1 ∧ rtR ln (rtGo tx ln m (rdW tx ln at_ wb to)) = (if eiGo tx (ln - at_) at_ 0 (nI wb) = ln ∧ at_ < ln ∧ ¬ tx (ln - 1) = 44 then 1 else 0) ∧ (rtGo tx ln m (rdW tx ln at_ wb to)).2.2.1 ≤ 12 := by
  have z0 : (0 : Int32).toInt = 0 := by decide
  have z44 : (44 : Int32).toInt = 44 := by decide
  have z48 : (48 : Int32).toInt = 48 := by decide
  have z49 : (49 : Int32).toInt = 49 := by decide
  have z57 : (57 : Int32).toInt = 57 := by decide
  -- no number here: both end at at_
  have stop : seesM tx ln at_ 49 57 = 0 → eiGo tx (ln - at_) at_ 0 (nI wb) = at_ → eiGo tx (ln - at_) at_ 0 (nI wb) = (rtGo tx ln m (rdW tx ln at_ wb to)).2.1 ∧ rtR ln (rtGo tx ln m (rdW tx ln at_ wb to)) = (if eiGo tx (ln - at_) at_ 0 (nI wb) = ln ∧ at_ < ln ∧ ¬ tx (ln - 1) = 44 then 1 else 0) ∧ (rtGo tx ln m (rdW tx ln at_ wb to)).2.2.1 ≤ 12 := by
    intro h1 h2
    have e : rdW tx ln at_ wb to = (0, at_, wb, to) := by rw [rdW, if_pos h1]
    rw [e, rtGo_a rfl, h2]
    refine ⟨rfl, ?_, by show wb ≤ 12; omega⟩
    rw [if_neg (fun q => by have := q.1; have := q.2.1; omega)]
    exact (rtR_0a rfl).symm
  by_cases hl : at_ = ln
  · refine stop (sees_0a (by omega)).symm ?_
    rw [show ln - at_ = 0 from by omega, eiGo]
  · obtain ⟨n, hn⟩ : ∃ n, ln - at_ = n + 1 := ⟨ln - at_ - 1, by omega⟩
    have w0 : (wDig 0 (tx at_)).toInt = (tx at_).toInt - 48 ∨ ¬ (48 ≤ (tx at_).toInt ∧ (tx at_).toInt ≤ 57) := by
      by_cases q : 48 ≤ (tx at_).toInt ∧ (tx at_).toInt ≤ 57
      · left
        rw [wDig_int (v := 0) (by rw [z0]; omega) (by rw [z0]; omega) q.1 q.2, z0]
        omega
      · exact Or.inr q
    by_cases hd : seesM tx ln at_ 49 57 = 0
    · refine stop hd ?_
      have hr : ¬ (49 ≤ (tx at_).toInt ∧ (tx at_).toInt ≤ 57) := by
        intro q
        exact sees_nz (by omega) (by rw [i_lt, z49]; omega) (by rw [i_lt, z57]; omega) hd
      rw [hn, eiGo]
      by_cases a : tx at_ = 44
      · rw [if_pos a, if_pos rfl]
      · rw [if_neg a]
        by_cases b : tx at_ < 48
        · rw [if_pos b]
        · rw [if_neg b]
          by_cases c : tx at_ ≤ 57
          · have k : wDig 0 (tx at_) = 0 := by
              rw [i_lt, z48] at b
              rw [i_le, z57] at c
              rw [i_eq, z0]
              rcases w0 with w0 | w0
              · omega
              · omega
            rw [if_pos c, if_pos k]
          · rw [if_neg c]
    · have hlt := sees_lt hd
      have hc1 : ¬ tx at_ < 49 := fun q => hd (sees_z (Or.inl q))
      have hc2 : ¬ 57 < tx at_ := fun q => hd (sees_z (Or.inr q))
      rw [i_lt, z49] at hc1
      rw [i_lt, z57] at hc2
      have w1 : (wDig 0 (tx at_)).toInt = (tx at_).toInt - 48 := w0.resolve_right (fun q => q ⟨by omega, by omega⟩)
      have z2048 : (2048 : Int32).toInt = 2048 := by decide
      have a44 : ¬ tx at_ = 44 := by rw [i_eq, z44]; omega
      have r0 : rdGo tx ln (ln - at_) 0 at_ = rdGo tx ln n (wDig 0 (tx at_)) (at_ + 1) := by
        rw [hn, rdGo, if_neg (sees_nz hlt (by rw [i_lt, z48]; omega) (by rw [i_lt, z57]; omega)), wDig_eq, if_pos (by rw [i_le, z2048]; omega)]
      have g0 : eiGo tx (ln - at_) at_ 0 (nI wb) = eiGo tx n (at_ + 1) (wDig 0 (tx at_)) (nI wb) := by
        rw [hn, eiGo, if_neg a44, if_neg (by rw [i_lt, z48]; omega), if_pos (by rw [i_le, z57]; omega), if_neg (by rw [i_eq, z0]; omega), if_pos (by rw [i_le, z2048]; omega)]
      obtain ⟨i1, i2, i3, i4, -, -⟩ := ei_rd tx ln wb (nI wb) n (at_ + 1) (wDig 0 (tx at_)) (by omega) (by omega) (by omega) (by rw [Nat.add_sub_cancel]; exact a44)
      have e : rdW tx ln at_ wb to = (1, (rdGo tx ln n (wDig 0 (tx at_)) (at_ + 1)).2, wb + 1, upd to wb (rdGo tx ln n (wDig 0 (tx at_)) (at_ + 1)).1) := by rw [rdW, if_neg hd, r0]
      rw [e, g0, i1]
      generalize hr : rdGo tx ln n (wDig 0 (tx at_)) (at_ + 1) = r at i2 i3 i4 ⊢
      by_cases c : r.2 < ln ∧ tx r.2 = 44
      · rw [if_pos c]
        by_cases k : wb = 11
        · have k2 : nI wb + 1 = 12 := by rw [k]; decide
          rw [if_pos k2, rtGo_b (by omega)]
          refine ⟨rfl, ?_, by show wb + 1 ≤ 12; omega⟩
          rw [if_neg (fun q => by have := q.1; omega)]
          exact (rtR_0b (fun q => by have : r.2 = ln := q; omega)).symm
        · have k2 : ¬ nI wb + 1 = 12 := by
            have : nI wb + 1 = nI (wb + 1) := nI_1 wb
            rw [this]
            intro q
            have := (nI_eq (a := wb + 1) (b := 12) (by omega) (by omega)).mp q
            omega
          have k3 : nI wb + 1 = nI (wb + 1) := nI_1 wb
          rw [if_neg k2, rtGo_step (by omega) (by decide) (by omega) (tk_yes c.1 c.2), k3]
          obtain ⟨j1, j2, j3⟩ := ih (by omega) (r.2 + 1) (upd to wb r.1) (by omega)
          refine ⟨j1, ?_, j3⟩
          rw [j2]
          by_cases z : eiGo tx (ln - (r.2 + 1)) (r.2 + 1) 0 (nI (wb + 1)) = ln ∧ at_ < ln ∧ ¬ tx (ln - 1) = 44
          · rw [if_pos z, if_pos]
            refine ⟨z.1, ?_, z.2.2⟩
            by_cases y : r.2 + 1 = ln
            · exact absurd (by rw [← y, Nat.add_sub_cancel]; exact c.2) z.2.2
            · omega
          · rw [if_neg z, if_neg (fun q => z ⟨q.1, by omega, q.2.2⟩)]
      · rw [if_neg c]
        have nk : r.2 = ln ∨ ¬ tx r.2 = 44 := by
          by_cases y : r.2 = ln
          · exact Or.inl y
          · exact Or.inr (fun q => c ⟨by omega, q⟩)
        rw [rtGo_c (tk_no nk)]
        refine ⟨rfl, ?_, by show wb + 1 ≤ 12; omega⟩
        by_cases y : r.2 = ln
        · rw [if_pos ⟨y, by omega, by rw [← y]; exact i4⟩]
          exact (rtR_1 (show ¬ (1 : Int32) = 0 by decide) y).symm
        · rw [if_neg (fun q => y q.1)]
          exact (rtR_0b y).symm
/-- from a number's start on: where the class's scan ends is where the model's reading ends; complete is complete -/
theorem ei_rt (tx : Nat → Int32) (ln : Nat) : ∀ (m at_ wb : Nat) (to : Nat → Int32), at_ ≤ ln → wb ≤ 11 → 11 - wb ≤ m →
    eiGo tx (ln - at_) at_ 0 (nI wb) = (rtGo tx ln m (rdW tx ln at_ wb to)).2.1 ∧ rtR ln (rtGo tx ln m (rdW tx ln at_ wb to)) = (if eiGo tx (ln - at_) at_ 0 (nI wb) = ln ∧ at_ < ln ∧ ¬ tx (ln - 1) = 44 then 1 else 0) ∧ (rtGo tx ln m (rdW tx ln at_ wb to)).2.2.1 ≤ 12 := by
  intro m
  induction m with
  | zero =>
    intro at_ wb to ha hw hm
    have hwb : wb = 11 := by omega
    exact ei_rt_go tx ln 0 at_ wb to ha hw hm (fun h => absurd hwb (by omega)) 
  | succ m ih =>
    intro at_ wb to ha hw hm
    exact ei_rt_go tx ln (m + 1) at_ wb to ha hw hm (fun h a to2 h2 => ih a (wb + 1) to2 h2 (by omega) (by omega))
theorem ei_fe {tx : Nat → Int32} {ln m : Nat} {to : Nat → Int32} (hm : 11 ≤ m) : eiGo tx ln 0 0 0 = feM ln (rtGo tx ln m (rdW tx ln 0 0 to)) := by
  rw [fe_of]
  exact (ei_rt tx ln m 0 0 to (by omega) (by omega) (by omega)).1
theorem isC_rt {tx : Nat → Int32} {ln m : Nat} {to : Nat → Int32} (hm : 11 ≤ m) : isC tx ln = rtR ln (rtGo tx ln m (rdW tx ln 0 0 to)) := by
  have h := (ei_rt tx ln m 0 0 to (by omega) (by omega) (by omega)).2.1
  rw [h, isC]
  by_cases q : 0 < ln ∧ ¬ tx (ln - 1) = 44 ∧ eiGo tx ln 0 0 0 = ln
  · rw [if_pos q]
    exact (if_pos ⟨q.2.2, q.1, q.2.1⟩).symm
  · rw [if_neg q]
    exact (if_neg (fun z => q ⟨z.2.1, z.2.2, z.1⟩)).symm
