/-! Values of a law stay within bounds. -/
section NK
theorem lim_bd (x : Int64) : bd (lim64 x) (-1000000) 1000000 := by
  have e1 : (1000000 : Int64).toInt = 1000000 := by decide
  have e2 : (-1000000 : Int64).toInt = -1000000 := by decide
  have key : ∀ y : Int64, -1000000 ≤ y.toInt → y.toInt ≤ 1000000 → bd y.toInt32 (-1000000) 1000000 := by
    intro y h1 h2
    have e : y.toInt32.toInt = y.toInt := by
      rw [Int64.toInt_toInt32]
      exact Int.bmod_eq_of_le (by omega) (by omega)
    unfold bd
    omega
  unfold lim64
  by_cases h1 : x < 1000000
  · rw [if_pos h1]
    rw [Int64.lt_iff_toInt_lt, e1] at h1
    by_cases h2 : x < -1000000
    · rw [if_pos h2]
      exact key _ (by omega) (by omega)
    · rw [if_neg h2]
      rw [Int64.lt_iff_toInt_lt, e2] at h2
      exact key _ (by omega) (by omega)
  · rw [if_neg h1, if_neg (by decide)]
    exact key _ (by omega) (by omega)
theorem div64 {l r : Int32} (hl : bd l (-1000000) 1000000) : l.toInt64 / r.toInt64 = (l / r).toInt64 := by
  unfold bd at hl
  have b1 : (l.toInt.tdiv r.toInt).natAbs ≤ l.toInt.natAbs := by
    rw [Int.natAbs_tdiv]
    exact Nat.div_le_self _ _
  apply Int64.toInt_inj.mp
  rw [Int64.toInt_div, Int32.toInt_toInt64, Int32.toInt_toInt64, Int32.toInt_toInt64, Int32.toInt_div]
  rw [Int.bmod_eq_of_le (by omega) (by omega), Int.bmod_eq_of_le (by omega) (by omega)]
end NK
