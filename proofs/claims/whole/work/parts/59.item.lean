/-! Kitchens: an item's number. -/
section PG
variable {b : Nat → Int32} {n : Nat} {S : zS} {i : Nat} {f w : Int32}
def pItem (b : Nat → Int32) (n : Nat) (lo hg : Int32) (i : Nat) : zPR :=
  if 48 ≤ pk b n i ∧ pk b n i ≤ 57 then
    (if (pnum b n 2 (sk b n i) 0).1 < n ∧ 48 ≤ b (pnum b n 2 (sk b n i) 0).1 ∧ b (pnum b n 2 (sk b n i) 0).1 ≤ 57 then .inl (pnum b n 2 (sk b n i) 0).1
    else if (pnum b n 2 (sk b n i) 0).2 < lo ∨ hg < (pnum b n 2 (sk b n i) 0).2 then .inl ((pnum b n 2 (sk b n i) 0).1 - 1)
    else .inr ((pnum b n 2 (sk b n i) 0).1, [(pnum b n 2 (sk b n i) 0).2]))
  else .inl (sk b n i)
theorem c_itm (T : CTx S b n) (TB : TxB b n) (hi : i ≤ n) (lo hg : Int32) : (∀ x, pItem b n lo hg i = .inl x → x ≤ n ∧ ∃ v i', i' ≤ n ∧ f_X9_number 2 lo hg (tS S i (-1)) = some (v, tS S i' (Int32.ofNat x))) ∧ ∀ i' c, pItem b n lo hg i = .inr (i', c) → ∃ v, c = [v] ∧ i < i' ∧ i' ≤ n ∧ ¬ v < lo ∧ ¬ hg < v ∧ f_X9_number 2 lo hg (tS S i (-1)) = some (v, tS S i' (-1)) := by
  have n2 := TB.1
  have s1 := sk_ge (b := b) hi
  have s2 := sk_le (b := b) hi
  unfold pItem
  by_cases q : 48 ≤ pk b n i ∧ pk b n i ≤ 57
  · have lt := dg_lt q
    have q' : 48 ≤ b (sk b n i) ∧ b (sk b n i) ≤ 57 := by rw [← pk_of lt]; exact q
    have nm : f_X9_number 2 lo hg (tS S i (-1)) = _ := c_number1 (D := 2) T n2 hi (by decide) lo hg q
    have p1 : sk b n i < (pnum b n 2 (sk b n i) 0).1 := pnum_1 (d := 1) (v := 0) lt q'.1 q'.2
    have p2 := (pnum_i (b := b) 2 (sk b n i) 0 s2).2
    rw [if_pos q, nm]
    generalize pnum b n 2 (sk b n i) 0 = p at p1 p2
    by_cases q3 : p.1 < n ∧ 48 ≤ b p.1 ∧ b p.1 ≤ 57
    · rw [if_pos q3, if_pos q3]
      refine ⟨fun x h => ?_, fun i' c h => by cases h⟩
      cases h
      exact ⟨p2, _, _, p2, rfl⟩
    · rw [if_neg q3, if_neg q3]
      by_cases q4 : p.2 < lo ∨ hg < p.2
      · rw [if_pos q4, if_pos q4, io_mm (by omega)]
        refine ⟨fun x h => ?_, fun i' c h => by cases h⟩
        cases h
        exact ⟨by omega, _, _, p2, rfl⟩
      · rw [if_neg q4, if_neg q4]
        refine ⟨fun x h => (by cases h), fun i' c h => ?_⟩
        injection h with h
        injection h with e1 e2
        subst e1 e2
        exact ⟨_, rfl, by omega, p2, fun z => q4 (Or.inl z), fun z => q4 (Or.inr z), rfl⟩
  · rw [if_neg q, c_number0 T n2 hi 2 lo hg q]
    refine ⟨fun x h => ?_, fun i' c h => by cases h⟩
    cases h
    exact ⟨s2, _, _, s2, rfl⟩
theorem r_here (T : RTx S b n) (hi : i < n) : f_X12_here (rS S i f w) = some (b i, rS S i f w) := by
  have n2 := T.1
  unfold f_X12_here
  rw [if_neg (fun h => by rw [rS_9, T.2.1, rS_10] at h; have := (io_le (by omega) (by omega)).mp h; omega)]
  obtain ⟨y, y1, y2⟩ := r_byte (i := i) (f := f) (w := w) T hi (fun y => some (y &&& 255, rS S i f w)) (fun a11 => if a11 = 42 then if ia_in ((rS S i f w).1 41 8 + (rS S i f w).1 41 10) 200 = true then some ((rS S i f w).1 42 ((rS S i f w).1 41 8 + (rS S i f w).1 41 10).toNatClampNeg &&& 255, rS S i f w) else none else if a11 = 43 then if ia_in ((rS S i f w).1 41 8 + (rS S i f w).1 41 10) 800 = true then some ((rS S i f w).1 43 ((rS S i f w).1 41 8 + (rS S i f w).1 41 10).toNatClampNeg &&& 255, rS S i f w) else none else none) (if_pos rfl) (by rw [if_neg (by decide), if_pos rfl])
  refine y2.trans ?_
  rw [y1.and]
/-- the value, as the reference makes it -/
theorem pnum2 (b : Nat → Int32) (n : Nat) {j : Nat} (h : j < n ∧ 48 ≤ b j ∧ b j ≤ 57) : pnum b n 2 j 0 = if j + 1 < n ∧ 48 ≤ b (j + 1) ∧ b (j + 1) ≤ 57 then (j + 2, ((10 * (b j - 48)) + b (j + 1)) - 48) else (j + 1, b j - 48) := by
  have e : (0 : Int32) * 10 + b j - 48 = b j - 48 := by rw [Int32.zero_mul, Int32.zero_add]
  rw [pnum, if_pos h, e, pnum]
  by_cases q : j + 1 < n ∧ 48 ≤ b (j + 1) ∧ b (j + 1) ≤ 57
  · rw [if_pos q, if_pos q, pnum, Int32.mul_comm]
  · rw [if_neg q, if_neg q]

theorem r_itm_47 (T : RTx S b n) (hi : i < n) (lo hg : Int32) {pl : Nat} (hp : pl < 24) : (∀ x, pItem b n lo hg (i + 1) = .inl x → ∃ i', f_X12_readItem_47 (Int32.ofNat pl) lo hg (rS S i (-1) w) = some ((), rS S i' (Int32.ofNat x) w)) ∧ ∀ i' c, pItem b n lo hg (i + 1) = .inr (i', c) → ∃ v, c = [v] ∧ f_X12_readItem_47 (Int32.ofNat pl) lo hg (rS S i (-1) w) = some ((), rS (sV S 47 pl v) i' (-1) w) := by
  have n2 := T.1
  have hi1 : i + 1 ≤ n := by omega
  have s1 := sk_ge (b := b) hi1
  have s2 := sk_le (b := b) hi1
  unfold f_X12_readItem_47 pItem
  rw [zlE, rS_up, r_look T hi1, zbE, r_isDigit T s2, zbE]
  by_cases q : 48 ≤ pk b n (i + 1) ∧ pk b n (i + 1) ≤ 57
  · have lt := dg_lt q
    have q' : sk b n (i + 1) < n ∧ 48 ≤ b (sk b n (i + 1)) ∧ b (sk b n (i + 1)) ≤ 57 := ⟨lt, by rw [← pk_of lt]; exact q⟩
    have el : lk b n (i + 1) = b (sk b n (i + 1)) := if_pos lt
    rw [if_pos q, if_pos q', if_pos (show ¬ (1 : Int32) = 0 by decide), zlE, zlE, rS_up, r_isDigit T (by omega), zbE, zlE, el]
    have J : ∀ (v : Int32) (j : Nat), j ≤ n → 0 < j → (∀ x, (if j < n ∧ 48 ≤ b j ∧ b j ≤ 57 then .inl j else if v < lo ∨ hg < v then .inl (j - 1) else .inr (j, [v]) : zPR) = .inl x → ∃ i', (zb (f_X12_isDigit (rS S j (-1) w)) fun r19 S18 => if r19 = 0 then zb (f_X12_isIn (v.toInt64) (lo.toInt64) (hg.toInt64) S18) fun r23 S22 => if ¬ r23 = 0 then if ia_in (Int32.ofNat pl) 24 = true then zl (sV S22 47 ((Int32.ofNat pl).toNatClampNeg) v) fun S27 => some ((), S27) else none else zl (sV S22 41 10 ((S22.1 41 10) - 1)) fun S28 => zb (f_X12_fails S28) fun r30 S29 => some ((), S29) else zb (f_X12_fails S18) fun r33 S32 => some ((), S32)) = some ((), rS S i' (Int32.ofNat x) w)) ∧ ∀ i' c, (if j < n ∧ 48 ≤ b j ∧ b j ≤ 57 then .inl j else if v < lo ∨ hg < v then .inl (j - 1) else .inr (j, [v]) : zPR) = .inr (i', c) → ∃ v', c = [v'] ∧ (zb (f_X12_isDigit (rS S j (-1) w)) fun r19 S18 => if r19 = 0 then zb (f_X12_isIn (v.toInt64) (lo.toInt64) (hg.toInt64) S18) fun r23 S22 => if ¬ r23 = 0 then if ia_in (Int32.ofNat pl) 24 = true then zl (sV S22 47 ((Int32.ofNat pl).toNatClampNeg) v) fun S27 => some ((), S27) else none else zl (sV S22 41 10 ((S22.1 41 10) - 1)) fun S28 => zb (f_X12_fails S28) fun r30 S29 => some ((), S29) else zb (f_X12_fails S18) fun r33 S32 => some ((), S32)) = some ((), rS (sV S 47 pl v') i' (-1) w) := by
      intro v j hj h0
      rw [r_isDigit T hj, zbE]
      by_cases g : j < n ∧ 48 ≤ b j ∧ b j ≤ 57
      · rw [if_pos g, if_pos g, if_neg (show ¬ (1 : Int32) = 0 by decide), r_fails1, zbE]
        refine ⟨fun x h => ?_, fun i' c h => by cases h⟩
        cases h
        exact ⟨_, rfl⟩
      · rw [if_neg g, if_neg g, if_pos rfl, r_isIn, zbE, t64, t64]
        by_cases g2 : v < lo ∨ hg < v
        · rw [if_neg (show ¬ (lo.toInt ≤ v.toInt ∧ v.toInt ≤ hg.toInt) from fun h => by
            rcases g2 with g2 | g2
            · rw [Int32.lt_iff_toInt_lt] at g2
              omega
            · rw [Int32.lt_iff_toInt_lt] at g2
              omega), if_neg (nn rfl), zlE, rS_10, io_mm h0, rS_s10, r_fails1, zbE, if_pos g2]
          refine ⟨fun x h => ?_, fun i' c h => by cases h⟩
          cases h
          exact ⟨_, rfl⟩
        · have l1 : lo.toInt ≤ v.toInt := by
            have : ¬ v.toInt < lo.toInt := fun h => g2 (Or.inl (Int32.lt_iff_toInt_lt.mpr h))
            omega
          have l2 : v.toInt ≤ hg.toInt := by
            have : ¬ hg.toInt < v.toInt := fun h => g2 (Or.inr (Int32.lt_iff_toInt_lt.mpr h))
            omega
          rw [if_pos (show lo.toInt ≤ v.toInt ∧ v.toInt ≤ hg.toInt from ⟨l1, l2⟩), if_pos (show ¬ (1 : Int32) = 0 by decide), if_pos (io_in (by omega) (by omega)), zlE, io_cl (by omega), rS_so (by decide), if_neg g2]
          refine ⟨fun x h => (by cases h), fun i' c h => ?_⟩
          injection h with h
          injection h with e1 e2
          subst e1 e2
          exact ⟨_, rfl, rfl⟩
    by_cases g : sk b n (i + 1) + 1 < n ∧ 48 ≤ b (sk b n (i + 1) + 1) ∧ b (sk b n (i + 1) + 1) ≤ 57
    · rw [show pnum b n 2 (sk b n (i + 1)) 0 = _ from (pnum2 b n q').trans (if_pos g), show (if sk b n (i + 1) + 1 < n ∧ 48 ≤ b (sk b n (i + 1) + 1) ∧ b (sk b n (i + 1) + 1) ≤ 57 then (1 : Int32) else 0) = 1 from if_pos g, if_neg (show ¬ (1 : Int32) = 0 by decide), r_here T g.1, zbE, zlE, zlE, rS_up]
      exact J _ (sk b n (i + 1) + 2) (by omega) (by omega)
    · rw [show pnum b n 2 (sk b n (i + 1)) 0 = _ from (pnum2 b n q').trans (if_neg g), show (if sk b n (i + 1) + 1 < n ∧ 48 ≤ b (sk b n (i + 1) + 1) ∧ b (sk b n (i + 1) + 1) ≤ 57 then (1 : Int32) else 0) = 0 from if_neg g, if_pos (show (0 : Int32) = 0 from rfl)]
      exact J _ (sk b n (i + 1) + 1) (by omega) (by omega)
  · rw [if_neg q, if_neg (show ¬ (sk b n (i + 1) < n ∧ 48 ≤ b (sk b n (i + 1)) ∧ b (sk b n (i + 1)) ≤ 57) from fun h => q (by rw [pk_of h.1]; exact h.2)), if_neg (nn rfl), r_fails1, zbE]
    refine ⟨fun x h => ?_, fun i' c h => by cases h⟩
    cases h
    exact ⟨_, rfl⟩
theorem r_itm_49 (T : RTx S b n) (hi : i < n) (lo hg : Int32) {pl : Nat} (hp : pl < 30) : (∀ x, pItem b n lo hg (i + 1) = .inl x → ∃ i', f_X12_readItem_49 (Int32.ofNat pl) lo hg (rS S i (-1) w) = some ((), rS S i' (Int32.ofNat x) w)) ∧ ∀ i' c, pItem b n lo hg (i + 1) = .inr (i', c) → ∃ v, c = [v] ∧ f_X12_readItem_49 (Int32.ofNat pl) lo hg (rS S i (-1) w) = some ((), rS (sV S 49 pl v) i' (-1) w) := by
  have n2 := T.1
  have hi1 : i + 1 ≤ n := by omega
  have s1 := sk_ge (b := b) hi1
  have s2 := sk_le (b := b) hi1
  unfold f_X12_readItem_49 pItem
  rw [zlE, rS_up, r_look T hi1, zbE, r_isDigit T s2, zbE]
  by_cases q : 48 ≤ pk b n (i + 1) ∧ pk b n (i + 1) ≤ 57
  · have lt := dg_lt q
    have q' : sk b n (i + 1) < n ∧ 48 ≤ b (sk b n (i + 1)) ∧ b (sk b n (i + 1)) ≤ 57 := ⟨lt, by rw [← pk_of lt]; exact q⟩
    have el : lk b n (i + 1) = b (sk b n (i + 1)) := if_pos lt
    rw [if_pos q, if_pos q', if_pos (show ¬ (1 : Int32) = 0 by decide), zlE, zlE, rS_up, r_isDigit T (by omega), zbE, zlE, el]
    have J : ∀ (v : Int32) (j : Nat), j ≤ n → 0 < j → (∀ x, (if j < n ∧ 48 ≤ b j ∧ b j ≤ 57 then .inl j else if v < lo ∨ hg < v then .inl (j - 1) else .inr (j, [v]) : zPR) = .inl x → ∃ i', (zb (f_X12_isDigit (rS S j (-1) w)) fun r19 S18 => if r19 = 0 then zb (f_X12_isIn (v.toInt64) (lo.toInt64) (hg.toInt64) S18) fun r23 S22 => if ¬ r23 = 0 then if ia_in (Int32.ofNat pl) 30 = true then zl (sV S22 49 ((Int32.ofNat pl).toNatClampNeg) v) fun S27 => some ((), S27) else none else zl (sV S22 41 10 ((S22.1 41 10) - 1)) fun S28 => zb (f_X12_fails S28) fun r30 S29 => some ((), S29) else zb (f_X12_fails S18) fun r33 S32 => some ((), S32)) = some ((), rS S i' (Int32.ofNat x) w)) ∧ ∀ i' c, (if j < n ∧ 48 ≤ b j ∧ b j ≤ 57 then .inl j else if v < lo ∨ hg < v then .inl (j - 1) else .inr (j, [v]) : zPR) = .inr (i', c) → ∃ v', c = [v'] ∧ (zb (f_X12_isDigit (rS S j (-1) w)) fun r19 S18 => if r19 = 0 then zb (f_X12_isIn (v.toInt64) (lo.toInt64) (hg.toInt64) S18) fun r23 S22 => if ¬ r23 = 0 then if ia_in (Int32.ofNat pl) 30 = true then zl (sV S22 49 ((Int32.ofNat pl).toNatClampNeg) v) fun S27 => some ((), S27) else none else zl (sV S22 41 10 ((S22.1 41 10) - 1)) fun S28 => zb (f_X12_fails S28) fun r30 S29 => some ((), S29) else zb (f_X12_fails S18) fun r33 S32 => some ((), S32)) = some ((), rS (sV S 49 pl v') i' (-1) w) := by
      intro v j hj h0
      rw [r_isDigit T hj, zbE]
      by_cases g : j < n ∧ 48 ≤ b j ∧ b j ≤ 57
      · rw [if_pos g, if_pos g, if_neg (show ¬ (1 : Int32) = 0 by decide), r_fails1, zbE]
        refine ⟨fun x h => ?_, fun i' c h => by cases h⟩
        cases h
        exact ⟨_, rfl⟩
      · rw [if_neg g, if_neg g, if_pos rfl, r_isIn, zbE, t64, t64]
        by_cases g2 : v < lo ∨ hg < v
        · rw [if_neg (show ¬ (lo.toInt ≤ v.toInt ∧ v.toInt ≤ hg.toInt) from fun h => by
            rcases g2 with g2 | g2
            · rw [Int32.lt_iff_toInt_lt] at g2
              omega
            · rw [Int32.lt_iff_toInt_lt] at g2
              omega), if_neg (nn rfl), zlE, rS_10, io_mm h0, rS_s10, r_fails1, zbE, if_pos g2]
          refine ⟨fun x h => ?_, fun i' c h => by cases h⟩
          cases h
          exact ⟨_, rfl⟩
        · have l1 : lo.toInt ≤ v.toInt := by
            have : ¬ v.toInt < lo.toInt := fun h => g2 (Or.inl (Int32.lt_iff_toInt_lt.mpr h))
            omega
          have l2 : v.toInt ≤ hg.toInt := by
            have : ¬ hg.toInt < v.toInt := fun h => g2 (Or.inr (Int32.lt_iff_toInt_lt.mpr h))
            omega
          rw [if_pos (show lo.toInt ≤ v.toInt ∧ v.toInt ≤ hg.toInt from ⟨l1, l2⟩), if_pos (show ¬ (1 : Int32) = 0 by decide), if_pos (io_in (by omega) (by omega)), zlE, io_cl (by omega), rS_so (by decide), if_neg g2]
          refine ⟨fun x h => (by cases h), fun i' c h => ?_⟩
          injection h with h
          injection h with e1 e2
          subst e1 e2
          exact ⟨_, rfl, rfl⟩
    by_cases g : sk b n (i + 1) + 1 < n ∧ 48 ≤ b (sk b n (i + 1) + 1) ∧ b (sk b n (i + 1) + 1) ≤ 57
    · rw [show pnum b n 2 (sk b n (i + 1)) 0 = _ from (pnum2 b n q').trans (if_pos g), show (if sk b n (i + 1) + 1 < n ∧ 48 ≤ b (sk b n (i + 1) + 1) ∧ b (sk b n (i + 1) + 1) ≤ 57 then (1 : Int32) else 0) = 1 from if_pos g, if_neg (show ¬ (1 : Int32) = 0 by decide), r_here T g.1, zbE, zlE, zlE, rS_up]
      exact J _ (sk b n (i + 1) + 2) (by omega) (by omega)
    · rw [show pnum b n 2 (sk b n (i + 1)) 0 = _ from (pnum2 b n q').trans (if_neg g), show (if sk b n (i + 1) + 1 < n ∧ 48 ≤ b (sk b n (i + 1) + 1) ∧ b (sk b n (i + 1) + 1) ≤ 57 then (1 : Int32) else 0) = 0 from if_neg g, if_pos (show (0 : Int32) = 0 from rfl)]
      exact J _ (sk b n (i + 1) + 1) (by omega) (by omega)
  · rw [if_neg q, if_neg (show ¬ (sk b n (i + 1) < n ∧ 48 ≤ b (sk b n (i + 1)) ∧ b (sk b n (i + 1)) ≤ 57) from fun h => q (by rw [pk_of h.1]; exact h.2)), if_neg (nn rfl), r_fails1, zbE]
    refine ⟨fun x h => ?_, fun i' c h => by cases h⟩
    cases h
    exact ⟨_, rfl⟩
theorem r_itm_51 (T : RTx S b n) (hi : i < n) (lo hg : Int32) {pl : Nat} (hp : pl < 8) : (∀ x, pItem b n lo hg (i + 1) = .inl x → ∃ i', f_X12_readItem_51 (Int32.ofNat pl) lo hg (rS S i (-1) w) = some ((), rS S i' (Int32.ofNat x) w)) ∧ ∀ i' c, pItem b n lo hg (i + 1) = .inr (i', c) → ∃ v, c = [v] ∧ f_X12_readItem_51 (Int32.ofNat pl) lo hg (rS S i (-1) w) = some ((), rS (sV S 51 pl v) i' (-1) w) := by
  have n2 := T.1
  have hi1 : i + 1 ≤ n := by omega
  have s1 := sk_ge (b := b) hi1
  have s2 := sk_le (b := b) hi1
  unfold f_X12_readItem_51 pItem
  rw [zlE, rS_up, r_look T hi1, zbE, r_isDigit T s2, zbE]
  by_cases q : 48 ≤ pk b n (i + 1) ∧ pk b n (i + 1) ≤ 57
  · have lt := dg_lt q
    have q' : sk b n (i + 1) < n ∧ 48 ≤ b (sk b n (i + 1)) ∧ b (sk b n (i + 1)) ≤ 57 := ⟨lt, by rw [← pk_of lt]; exact q⟩
    have el : lk b n (i + 1) = b (sk b n (i + 1)) := if_pos lt
    rw [if_pos q, if_pos q', if_pos (show ¬ (1 : Int32) = 0 by decide), zlE, zlE, rS_up, r_isDigit T (by omega), zbE, zlE, el]
    have J : ∀ (v : Int32) (j : Nat), j ≤ n → 0 < j → (∀ x, (if j < n ∧ 48 ≤ b j ∧ b j ≤ 57 then .inl j else if v < lo ∨ hg < v then .inl (j - 1) else .inr (j, [v]) : zPR) = .inl x → ∃ i', (zb (f_X12_isDigit (rS S j (-1) w)) fun r19 S18 => if r19 = 0 then zb (f_X12_isIn (v.toInt64) (lo.toInt64) (hg.toInt64) S18) fun r23 S22 => if ¬ r23 = 0 then if ia_in (Int32.ofNat pl) 8 = true then zl (sV S22 51 ((Int32.ofNat pl).toNatClampNeg) v) fun S27 => some ((), S27) else none else zl (sV S22 41 10 ((S22.1 41 10) - 1)) fun S28 => zb (f_X12_fails S28) fun r30 S29 => some ((), S29) else zb (f_X12_fails S18) fun r33 S32 => some ((), S32)) = some ((), rS S i' (Int32.ofNat x) w)) ∧ ∀ i' c, (if j < n ∧ 48 ≤ b j ∧ b j ≤ 57 then .inl j else if v < lo ∨ hg < v then .inl (j - 1) else .inr (j, [v]) : zPR) = .inr (i', c) → ∃ v', c = [v'] ∧ (zb (f_X12_isDigit (rS S j (-1) w)) fun r19 S18 => if r19 = 0 then zb (f_X12_isIn (v.toInt64) (lo.toInt64) (hg.toInt64) S18) fun r23 S22 => if ¬ r23 = 0 then if ia_in (Int32.ofNat pl) 8 = true then zl (sV S22 51 ((Int32.ofNat pl).toNatClampNeg) v) fun S27 => some ((), S27) else none else zl (sV S22 41 10 ((S22.1 41 10) - 1)) fun S28 => zb (f_X12_fails S28) fun r30 S29 => some ((), S29) else zb (f_X12_fails S18) fun r33 S32 => some ((), S32)) = some ((), rS (sV S 51 pl v') i' (-1) w) := by
      intro v j hj h0
      rw [r_isDigit T hj, zbE]
      by_cases g : j < n ∧ 48 ≤ b j ∧ b j ≤ 57
      · rw [if_pos g, if_pos g, if_neg (show ¬ (1 : Int32) = 0 by decide), r_fails1, zbE]
        refine ⟨fun x h => ?_, fun i' c h => by cases h⟩
        cases h
        exact ⟨_, rfl⟩
      · rw [if_neg g, if_neg g, if_pos rfl, r_isIn, zbE, t64, t64]
        by_cases g2 : v < lo ∨ hg < v
        · rw [if_neg (show ¬ (lo.toInt ≤ v.toInt ∧ v.toInt ≤ hg.toInt) from fun h => by
            rcases g2 with g2 | g2
            · rw [Int32.lt_iff_toInt_lt] at g2
              omega
            · rw [Int32.lt_iff_toInt_lt] at g2
              omega), if_neg (nn rfl), zlE, rS_10, io_mm h0, rS_s10, r_fails1, zbE, if_pos g2]
          refine ⟨fun x h => ?_, fun i' c h => by cases h⟩
          cases h
          exact ⟨_, rfl⟩
        · have l1 : lo.toInt ≤ v.toInt := by
            have : ¬ v.toInt < lo.toInt := fun h => g2 (Or.inl (Int32.lt_iff_toInt_lt.mpr h))
            omega
          have l2 : v.toInt ≤ hg.toInt := by
            have : ¬ hg.toInt < v.toInt := fun h => g2 (Or.inr (Int32.lt_iff_toInt_lt.mpr h))
            omega
          rw [if_pos (show lo.toInt ≤ v.toInt ∧ v.toInt ≤ hg.toInt from ⟨l1, l2⟩), if_pos (show ¬ (1 : Int32) = 0 by decide), if_pos (io_in (by omega) (by omega)), zlE, io_cl (by omega), rS_so (by decide), if_neg g2]
          refine ⟨fun x h => (by cases h), fun i' c h => ?_⟩
          injection h with h
          injection h with e1 e2
          subst e1 e2
          exact ⟨_, rfl, rfl⟩
    by_cases g : sk b n (i + 1) + 1 < n ∧ 48 ≤ b (sk b n (i + 1) + 1) ∧ b (sk b n (i + 1) + 1) ≤ 57
    · rw [show pnum b n 2 (sk b n (i + 1)) 0 = _ from (pnum2 b n q').trans (if_pos g), show (if sk b n (i + 1) + 1 < n ∧ 48 ≤ b (sk b n (i + 1) + 1) ∧ b (sk b n (i + 1) + 1) ≤ 57 then (1 : Int32) else 0) = 1 from if_pos g, if_neg (show ¬ (1 : Int32) = 0 by decide), r_here T g.1, zbE, zlE, zlE, rS_up]
      exact J _ (sk b n (i + 1) + 2) (by omega) (by omega)
    · rw [show pnum b n 2 (sk b n (i + 1)) 0 = _ from (pnum2 b n q').trans (if_neg g), show (if sk b n (i + 1) + 1 < n ∧ 48 ≤ b (sk b n (i + 1) + 1) ∧ b (sk b n (i + 1) + 1) ≤ 57 then (1 : Int32) else 0) = 0 from if_neg g, if_pos (show (0 : Int32) = 0 from rfl)]
      exact J _ (sk b n (i + 1) + 1) (by omega) (by omega)
  · rw [if_neg q, if_neg (show ¬ (sk b n (i + 1) < n ∧ 48 ≤ b (sk b n (i + 1)) ∧ b (sk b n (i + 1)) ≤ 57) from fun h => q (by rw [pk_of h.1]; exact h.2)), if_neg (nn rfl), r_fails1, zbE]
    refine ⟨fun x h => ?_, fun i' c h => by cases h⟩
    cases h
    exact ⟨_, rfl⟩
end PG
