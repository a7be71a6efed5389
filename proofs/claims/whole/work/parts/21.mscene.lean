/-! Scenes: what an act does to a row of 66 numbers, and that both sides' methods do it (repeated rows written by wip/whole/gen21.py). -/
section MB
def m0 (x : Int32) : Int32 := if 0 < x then x else 0
def loC (j h : Nat) : Nat := 40 + 6 * j + h
def loR (j h : Nat) : Nat := 40 + 4 * h + j
def holdM (r : Nat → Int32) (j : Nat) : Int32 := r (7 * j) + r (7 * j + 1) + 2 * r (7 * j + 2)
def tireM (hT : Nat → Int32) (h : Nat) (r : Nat → Int32) : Nat → Int32 := um (um r (28 + 2 * h) (fun x => m0 (x - hT (5 * h + 3)))) 65 (fun x => x + 1)
def looseM (lo : Nat → Nat → Nat) (tb h : Nat) (g : Int32) (r : Nat → Int32) : Nat → Int32 := um (um r (7 * tb + 1) (fun x => m0 (x - g / 10))) (lo tb h) (fun x => x + (r (7 * tb + 1) - m0 (r (7 * tb + 1) - g / 10)))
def tryM (lo : Nat → Nat → Nat) (hT : Nat → Int32) (tb h : Nat) (g : Int32) (r : Nat → Int32) : Nat → Int32 := if g < holdM r tb then tireM hT h (looseM lo tb h g r) else tireM hT h (ru r (7 * tb + 5) 1)
def wrongM (hT : Nat → Int32) (tb h : Nat) (r : Nat → Int32) : Nat → Int32 := tireM hT h (um r (7 * tb + 1) (fun x => if x + 2 < 99 then x + 2 else 99))
def warm3 (tb : Nat) (n : Int32) (r : Nat → Int32) : Nat → Int32 := um (um (um r (7 * tb + 3) (fun x => x + n)) (7 * tb + 2) (fun x => m0 (x - n / 10))) (7 * tb + 1) (fun x => m0 (x - n / 5))
def warmM (jT : Nat → Int32) (tb : Nat) (n : Int32) (r : Nat → Int32) : Nat → Int32 := if r (7 * tb + 3) + n ≤ jT (6 * tb + 5) then um (warm3 tb n r) 65 (fun x => x + 1) else um (ru (warm3 tb n r) (7 * tb + 6) 1) 65 (fun x => x + 1)
def chillM (tb : Nat) (r : Nat → Int32) : Nat → Int32 := um (um r (7 * tb + 2) (fun x => if x + 3 < 9 then x + 3 else 9)) 65 (fun x => x + 1)
def tapM (tb : Nat) (r : Nat → Int32) : Nat → Int32 := um (um r (7 * tb + 1) (fun x => m0 (x - 3))) 65 (fun x => x + 1)
def knockM (tb : Nat) (r : Nat → Int32) : Nat → Int32 := um (um r (7 * tb) (fun x => m0 (x - 4))) 65 (fun x => x + 1)
def holeM (tb : Nat) (r : Nat → Int32) : Nat → Int32 := um (ru (ru r (7 * tb) 0) (7 * tb + 4) 1) 65 (fun x => x + 1)
def dryM (h : Nat) (r : Nat → Int32) : Nat → Int32 := um (ru r (28 + 2 * h + 1) 0) 65 (fun x => x + 1)
def restJ (n : Int32) : Nat → (Nat → Int32) → Nat → Int32
  | 0, r => r
  | j + 1, r => um (restJ n j r) (7 * j + 3) (fun x => m0 (x - 2 * n))
def restH (hT : Nat → Int32) (n : Int32) : Nat → (Nat → Int32) → Nat → Int32
  | 0, r => r
  | h + 1, r => um (um (restH hT n h r) (28 + 2 * h) (fun x => if x + n < hT (5 * h) then x + n else hT (5 * h))) (28 + 2 * h + 1) (fun x => m0 (x - n / 10))
def restM (hT : Nat → Int32) (nj nh : Nat) (n : Int32) (r : Nat → Int32) : Nat → Int32 := um (restH hT n nh (restJ n nj r)) 65 (fun x => x + n)
def closeL (lo : Nat → Nat → Nat) (tb : Nat) : Nat → (Nat → Int32) → Nat → Int32
  | 0, r => r
  | h + 1, r => ru (closeL lo tb h r) (lo tb h) 0
def closeM (lo : Nat → Nat → Nat) (nh tb h : Nat) (r : Nat → Int32) : Nat → Int32 := um (closeL lo tb nh (ru (ru (ru r (7 * tb + 5) 0) (7 * tb + 1) (r (28 + 2 * h) / 2)) (7 * tb) 0)) 65 (fun x => x + 1)
theorem c_item0_0 {a : Nat} (ha : a < 4) (S : zS) : f_X10_item 0 (Int32.ofNat a) 0 S = some (S.1 13 (6 * a), S) := by
  have e0 : f_X10_cellOf 0 (Int32.ofNat a) 0 S = some ((0 + Int32.ofNat a * 6) + 0, S) := rfl
  unfold f_X10_item
  rw [e0, zbE, ix_cj_0]
  rw [if_pos (io_in (by omega) (by omega)), io_cl (by omega)]
theorem c_item0_1 {a : Nat} (ha : a < 4) (S : zS) : f_X10_item 0 (Int32.ofNat a) 1 S = some (S.1 13 (6 * a + 1), S) := by
  have e0 : f_X10_cellOf 0 (Int32.ofNat a) 1 S = some ((0 + Int32.ofNat a * 6) + 1, S) := rfl
  unfold f_X10_item
  rw [e0, zbE, ix_cj_1]
  rw [if_pos (io_in (by omega) (by omega)), io_cl (by omega)]
theorem c_item0_2 {a : Nat} (ha : a < 4) (S : zS) : f_X10_item 0 (Int32.ofNat a) 2 S = some (S.1 13 (6 * a + 2), S) := by
  have e0 : f_X10_cellOf 0 (Int32.ofNat a) 2 S = some ((0 + Int32.ofNat a * 6) + 2, S) := rfl
  unfold f_X10_item
  rw [e0, zbE, ix_cj_2]
  rw [if_pos (io_in (by omega) (by omega)), io_cl (by omega)]
theorem c_item0_3 {a : Nat} (ha : a < 4) (S : zS) : f_X10_item 0 (Int32.ofNat a) 3 S = some (S.1 13 (6 * a + 3), S) := by
  have e0 : f_X10_cellOf 0 (Int32.ofNat a) 3 S = some ((0 + Int32.ofNat a * 6) + 3, S) := rfl
  unfold f_X10_item
  rw [e0, zbE, ix_cj_3]
  rw [if_pos (io_in (by omega) (by omega)), io_cl (by omega)]
theorem c_item0_4 {a : Nat} (ha : a < 4) (S : zS) : f_X10_item 0 (Int32.ofNat a) 4 S = some (S.1 13 (6 * a + 4), S) := by
  have e0 : f_X10_cellOf 0 (Int32.ofNat a) 4 S = some ((0 + Int32.ofNat a * 6) + 4, S) := rfl
  unfold f_X10_item
  rw [e0, zbE, ix_cj_4]
  rw [if_pos (io_in (by omega) (by omega)), io_cl (by omega)]
theorem c_item0_5 {a : Nat} (ha : a < 4) (S : zS) : f_X10_item 0 (Int32.ofNat a) 5 S = some (S.1 13 (6 * a + 5), S) := by
  have e0 : f_X10_cellOf 0 (Int32.ofNat a) 5 S = some ((0 + Int32.ofNat a * 6) + 5, S) := rfl
  unfold f_X10_item
  rw [e0, zbE, ix_cj_5]
  rw [if_pos (io_in (by omega) (by omega)), io_cl (by omega)]
theorem c_item1_0 {a : Nat} (ha : a < 6) (S : zS) : f_X10_item 1 (Int32.ofNat a) 0 S = some (S.1 13 (24 + 5 * a), S) := by
  have e0 : f_X10_cellOf 1 (Int32.ofNat a) 0 S = some ((24 + Int32.ofNat a * 5) + 0, S) := rfl
  unfold f_X10_item
  rw [e0, zbE, ix_ch_0]
  rw [if_pos (io_in (by omega) (by omega)), io_cl (by omega)]
theorem c_item1_1 {a : Nat} (ha : a < 6) (S : zS) : f_X10_item 1 (Int32.ofNat a) 1 S = some (S.1 13 (24 + (5 * a + 1)), S) := by
  have e0 : f_X10_cellOf 1 (Int32.ofNat a) 1 S = some ((24 + Int32.ofNat a * 5) + 1, S) := rfl
  unfold f_X10_item
  rw [e0, zbE, ix_ch_1]
  rw [if_pos (io_in (by omega) (by omega)), io_cl (by omega)]
theorem c_item1_2 {a : Nat} (ha : a < 6) (S : zS) : f_X10_item 1 (Int32.ofNat a) 2 S = some (S.1 13 (24 + (5 * a + 2)), S) := by
  have e0 : f_X10_cellOf 1 (Int32.ofNat a) 2 S = some ((24 + Int32.ofNat a * 5) + 2, S) := rfl
  unfold f_X10_item
  rw [e0, zbE, ix_ch_2]
  rw [if_pos (io_in (by omega) (by omega)), io_cl (by omega)]
theorem c_item1_3 {a : Nat} (ha : a < 6) (S : zS) : f_X10_item 1 (Int32.ofNat a) 3 S = some (S.1 13 (24 + (5 * a + 3)), S) := by
  have e0 : f_X10_cellOf 1 (Int32.ofNat a) 3 S = some ((24 + Int32.ofNat a * 5) + 3, S) := rfl
  unfold f_X10_item
  rw [e0, zbE, ix_ch_3]
  rw [if_pos (io_in (by omega) (by omega)), io_cl (by omega)]
theorem c_item1_4 {a : Nat} (ha : a < 6) (S : zS) : f_X10_item 1 (Int32.ofNat a) 4 S = some (S.1 13 (24 + (5 * a + 4)), S) := by
  have e0 : f_X10_cellOf 1 (Int32.ofNat a) 4 S = some ((24 + Int32.ofNat a * 5) + 4, S) := rfl
  unfold f_X10_item
  rw [e0, zbE, ix_ch_4]
  rw [if_pos (io_in (by omega) (by omega)), io_cl (by omega)]
theorem c_item2_0 {a : Nat} (ha : a < 4) (S : zS) : f_X10_item 2 (Int32.ofNat a) 0 S = some (S.1 13 (54 + 2 * a), S) := by
  have e0 : f_X10_cellOf 2 (Int32.ofNat a) 0 S = some ((54 + Int32.ofNat a * 2) + 0, S) := rfl
  unfold f_X10_item
  rw [e0, zbE, ix_ct_0]
  rw [if_pos (io_in (by omega) (by omega)), io_cl (by omega)]
theorem c_item2_1 {a : Nat} (ha : a < 4) (S : zS) : f_X10_item 2 (Int32.ofNat a) 1 S = some (S.1 13 (54 + (2 * a + 1)), S) := by
  have e0 : f_X10_cellOf 2 (Int32.ofNat a) 1 S = some ((54 + Int32.ofNat a * 2) + 1, S) := rfl
  unfold f_X10_item
  rw [e0, zbE, ix_ct_1]
  rw [if_pos (io_in (by omega) (by omega)), io_cl (by omega)]
/-! ## the class -/
section C
variable {o tb h j nj nh : Nat} {S : zS}
theorem c_onTable (hT : S.1 (o + 1) 64 = Int32.ofNat tb) : f_X7_onTable o S = some (Int32.ofNat tb, S) := by
  unfold f_X7_onTable
  rw [hT]
theorem c_hold (hj : j < 4) : f_X7_hold o (Int32.ofNat j) S = some (holdM (S.1 (o + 1)) j, S) := by
  unfold holdM
  simp (disch := omega) only [f_X7_lid, f_X7_setLid, f_X7_lessenLid, f_X7_handCell, f_X7_setHand, f_X7_jarCell, f_X7_hold, f_X7_onTable, f_X7_minute, zlE, zbE, sV_eq, sR_at, sR_sR, sR_ne, ru_at, ru_ne, um, m0, io_in, io_cl, eq_self, if_true, ite_true, ix_c7_0, ix_c7_1, ix_c7_2, ix_c7_3, ix_c7_4, ix_c7_5, ix_c7_6]
theorem c_jarCell {c : Nat} {x : Int32} (hj : j < 4) (hc : c < 7) (hx : x = Int32.ofNat c) : f_X7_jarCell o (Int32.ofNat j) x S = some (S.1 (o + 1) (7 * j + c), S) := by
  have e : Int32.ofNat j * 7 + x = Int32.ofNat (7 * j + c) := by
    rw [hx, Int32.ofNat_add, Int32.ofNat_mul, Int32.mul_comm]
    rfl
  unfold f_X7_jarCell
  rw [e, if_pos (io_in (by omega) (by omega)), io_cl (by omega)]
theorem c_lid {c : Nat} {x : Int32} (hT : S.1 (o + 1) 64 = Int32.ofNat tb) (hb : tb < 4) (hc : c < 7) (hx : x = Int32.ofNat c) : f_X7_lid o x S = some (S.1 (o + 1) (7 * tb + c), S) := by
  have e : Int32.ofNat tb * 7 + x = Int32.ofNat (7 * tb + c) := by
    rw [hx, Int32.ofNat_add, Int32.ofNat_mul, Int32.mul_comm]
    rfl
  unfold f_X7_lid
  rw [hT, e, if_pos (io_in (by omega) (by omega)), io_cl (by omega)]
theorem c_loosened (hT : S.1 (o + 1) 64 = Int32.ofNat tb) (hb : tb < 4) (hh : h < 6) : f_X7_loosened o (Int32.ofNat h) S = some (S.1 (o + 1) (loC tb h), S) := by
  have e0 : f_X7_loosenedCell o (Int32.ofNat h) S = some ((40 + (S.1 (o + 1) 64) * 6) + Int32.ofNat h, S) := rfl
  unfold f_X7_loosened loC
  rw [e0, hT]
  simp (disch := omega) only [zlE, zbE, sV_eq, sR_at, sR_sR, sR_ne, ru_at, ru_ne, um, m0, io_in, io_cl, eq_self, if_true, ite_true, ix_cl]
theorem c_isClosed (hj : j < 4) : f_X7_isClosed o (Int32.ofNat j) S = some (if S.1 (o + 1) (7 * j + 5) = 0 ∧ S.1 (o + 1) (7 * j + 6) = 0 then 1 else 0, S) := by
  simp (disch := omega) only [f_X7_isClosed, f_X7_lid, f_X7_setLid, f_X7_lessenLid, f_X7_handCell, f_X7_setHand, f_X7_jarCell, f_X7_hold, f_X7_onTable, f_X7_minute, zlE, zbE, sV_eq, sR_at, sR_sR, sR_ne, ru_at, ru_ne, um, m0, io_in, io_cl, eq_self, if_true, ite_true, ix_c7_0, ix_c7_1, ix_c7_2, ix_c7_3, ix_c7_4, ix_c7_5, ix_c7_6]
  by_cases h1 : S.1 (o + 1) (7 * j + 5) = 0 <;> by_cases h2 : S.1 (o + 1) (7 * j + 6) = 0 <;> simp [h1, h2]
theorem c_tire (ho : 17 ≤ o) (hh : h < 6) : f_X7_tire o (Int32.ofNat h) S = some ((), sR S (o + 1) (tireM (fun k => S.1 13 (24 + k)) h (S.1 (o + 1)))) := by
  unfold tireM
  simp (disch := omega) only [f_X7_tire, f_X7_lid, f_X7_setLid, f_X7_lessenLid, f_X7_handCell, f_X7_setHand, f_X7_jarCell, f_X7_hold, f_X7_onTable, f_X7_minute, zlE, zbE, sV_eq, sR_at, sR_sR, sR_ne, ru_at, ru_ne, um, m0, io_in, io_cl, eq_self, if_true, ite_true, ix_c2_0, c_item1_3]
theorem c_tryLid (ho : 17 ≤ o) (hT : S.1 (o + 1) 64 = Int32.ofNat tb) (hb : tb < 4) (hh : h < 6) (g : Int32) : f_X7_tryLid o (Int32.ofNat h) g S = some ((), sR S (o + 1) (tryM loC (fun k => S.1 13 (24 + k)) tb h g (S.1 (o + 1)))) := by
  have e0 : ∀ U : zS, f_X7_loosenedCell o (Int32.ofNat h) U = some ((40 + (U.1 (o + 1) 64) * 6) + Int32.ofNat h, U) := fun _ => rfl
  unfold f_X7_tryLid tryM
  rw [c_onTable hT, zbE, c_hold hb, zbE, zlE]
  by_cases hg : g < holdM (S.1 (o + 1)) tb
  · rw [if_pos hg, if_pos hg]
    unfold looseM loC
    simp (disch := omega) only [hT, e0, f_X7_lid, f_X7_setLid, f_X7_lessenLid, f_X7_handCell, f_X7_setHand, f_X7_jarCell, f_X7_hold, f_X7_onTable, f_X7_minute, zlE, zbE, sV_eq, sR_at, sR_sR, sR_ne, ru_at, ru_ne, um, m0, io_in, io_cl, eq_self, if_true, ite_true, ix_c7_0, ix_c7_1, ix_c7_2, ix_c7_3, ix_c7_4, ix_c7_5, ix_c7_6, ix_cl, c_tire]
  · rw [if_neg hg, if_neg hg]
    simp (disch := omega) only [hT, f_X7_lid, f_X7_setLid, f_X7_lessenLid, f_X7_handCell, f_X7_setHand, f_X7_jarCell, f_X7_hold, f_X7_onTable, f_X7_minute, zlE, zbE, sV_eq, sR_at, sR_sR, sR_ne, ru_at, ru_ne, um, m0, io_in, io_cl, eq_self, if_true, ite_true, ix_c7_0, ix_c7_1, ix_c7_2, ix_c7_3, ix_c7_4, ix_c7_5, ix_c7_6, c_tire]
theorem c_wrong (ho : 17 ≤ o) (hT : S.1 (o + 1) 64 = Int32.ofNat tb) (hb : tb < 4) (hh : h < 6) : f_X7_tryWrongSide o (Int32.ofNat h) S = some ((), sR S (o + 1) (wrongM (fun k => S.1 13 (24 + k)) tb h (S.1 (o + 1)))) := by
  unfold wrongM
  simp (disch := omega) only [f_X7_tryWrongSide, hT, f_X7_lid, f_X7_setLid, f_X7_lessenLid, f_X7_handCell, f_X7_setHand, f_X7_jarCell, f_X7_hold, f_X7_onTable, f_X7_minute, zlE, zbE, sV_eq, sR_at, sR_sR, sR_ne, ru_at, ru_ne, um, m0, io_in, io_cl, eq_self, if_true, ite_true, ix_c7_0, ix_c7_1, ix_c7_2, ix_c7_3, ix_c7_4, ix_c7_5, ix_c7_6, c_tire]
theorem c_warm (ho : 17 ≤ o) (hT : S.1 (o + 1) 64 = Int32.ofNat tb) (hb : tb < 4) (n : Int32) : f_X7_warm o n S = some ((), sR S (o + 1) (warmM (S.1 13) tb n (S.1 (o + 1)))) := by
  unfold warmM warm3
  by_cases hc : S.1 (o + 1) (7 * tb + 3) + n ≤ S.1 13 (6 * tb + 5)
  · rw [if_pos hc]
    simp (disch := omega) only [f_X7_warm, hT, hc, f_X7_lid, f_X7_setLid, f_X7_lessenLid, f_X7_handCell, f_X7_setHand, f_X7_jarCell, f_X7_hold, f_X7_onTable, f_X7_minute, zlE, zbE, sV_eq, sR_at, sR_sR, sR_ne, ru_at, ru_ne, um, m0, io_in, io_cl, eq_self, if_true, ite_true, ix_c7_0, ix_c7_1, ix_c7_2, ix_c7_3, ix_c7_4, ix_c7_5, ix_c7_6, c_item0_5]
  · rw [if_neg hc]
    simp (disch := omega) only [f_X7_warm, hT, hc, if_false, ite_false, f_X7_lid, f_X7_setLid, f_X7_lessenLid, f_X7_handCell, f_X7_setHand, f_X7_jarCell, f_X7_hold, f_X7_onTable, f_X7_minute, zlE, zbE, sV_eq, sR_at, sR_sR, sR_ne, ru_at, ru_ne, um, m0, io_in, io_cl, eq_self, if_true, ite_true, ix_c7_0, ix_c7_1, ix_c7_2, ix_c7_3, ix_c7_4, ix_c7_5, ix_c7_6, c_item0_5]
theorem c_chill (ho : 17 ≤ o) (hT : S.1 (o + 1) 64 = Int32.ofNat tb) (hb : tb < 4) : f_X7_chill o S = some ((), sR S (o + 1) (chillM tb (S.1 (o + 1)))) := by
  unfold chillM
  simp (disch := omega) only [f_X7_chill, hT, f_X7_lid, f_X7_setLid, f_X7_lessenLid, f_X7_handCell, f_X7_setHand, f_X7_jarCell, f_X7_hold, f_X7_onTable, f_X7_minute, zlE, zbE, sV_eq, sR_at, sR_sR, sR_ne, ru_at, ru_ne, um, m0, io_in, io_cl, eq_self, if_true, ite_true, ix_c7_0, ix_c7_1, ix_c7_2, ix_c7_3, ix_c7_4, ix_c7_5, ix_c7_6]
theorem c_tap (ho : 17 ≤ o) (hT : S.1 (o + 1) 64 = Int32.ofNat tb) (hb : tb < 4) : f_X7_workOnLid o 0 S = some ((), sR S (o + 1) (tapM tb (S.1 (o + 1)))) := by
  unfold tapM
  unfold f_X7_workOnLid
  rw [zlE, if_neg (by decide)]
  simp (disch := omega) only [hT, f_X7_lid, f_X7_setLid, f_X7_lessenLid, f_X7_handCell, f_X7_setHand, f_X7_jarCell, f_X7_hold, f_X7_onTable, f_X7_minute, zlE, zbE, sV_eq, sR_at, sR_sR, sR_ne, ru_at, ru_ne, um, m0, io_in, io_cl, eq_self, if_true, ite_true, ix_c7_0, ix_c7_1, ix_c7_2, ix_c7_3, ix_c7_4, ix_c7_5, ix_c7_6]
theorem c_knock (ho : 17 ≤ o) (hT : S.1 (o + 1) 64 = Int32.ofNat tb) (hb : tb < 4) : f_X7_workOnLid o 1 S = some ((), sR S (o + 1) (knockM tb (S.1 (o + 1)))) := by
  unfold knockM
  unfold f_X7_workOnLid
  rw [zlE, if_pos (by decide), if_neg (by decide)]
  simp (disch := omega) only [hT, f_X7_lid, f_X7_setLid, f_X7_lessenLid, f_X7_handCell, f_X7_setHand, f_X7_jarCell, f_X7_hold, f_X7_onTable, f_X7_minute, zlE, zbE, sV_eq, sR_at, sR_sR, sR_ne, ru_at, ru_ne, um, m0, io_in, io_cl, eq_self, if_true, ite_true, ix_c7_0, ix_c7_1, ix_c7_2, ix_c7_3, ix_c7_4, ix_c7_5, ix_c7_6]
theorem c_hole (ho : 17 ≤ o) (hT : S.1 (o + 1) 64 = Int32.ofNat tb) (hb : tb < 4) : f_X7_workOnLid o 2 S = some ((), sR S (o + 1) (holeM tb (S.1 (o + 1)))) := by
  unfold holeM
  unfold f_X7_workOnLid
  rw [zlE, if_pos (by decide), if_pos (by decide)]
  simp (disch := omega) only [hT, f_X7_lid, f_X7_setLid, f_X7_lessenLid, f_X7_handCell, f_X7_setHand, f_X7_jarCell, f_X7_hold, f_X7_onTable, f_X7_minute, zlE, zbE, sV_eq, sR_at, sR_sR, sR_ne, ru_at, ru_ne, um, m0, io_in, io_cl, eq_self, if_true, ite_true, ix_c7_0, ix_c7_1, ix_c7_2, ix_c7_3, ix_c7_4, ix_c7_5, ix_c7_6]
theorem c_rest_L2 (ho : 17 ≤ o) {ex : Int32 → zS → Option (Unit × zS)} {n : Int32} (hn : S.1 12 0 = Int32.ofNat nj) (h4 : nj ≤ 4) : ∀ (m i f : Nat), i + m = nj → m < f → f_X7_rest_L2 o ex n f (Int32.ofNat i) (sR S (o + 1) (restJ n i (S.1 (o + 1)))) = ex (Int32.ofNat nj) (sR S (o + 1) (restJ n nj (S.1 (o + 1)))) := by
  intro m
  induction m with
  | zero =>
    intro i f hi hf
    obtain ⟨f, rfl⟩ : ∃ g, f = g + 1 := ⟨f - 1, by omega⟩
    have hi : i = nj := by omega
    subst hi
    unfold f_X7_rest_L2
    rw [sR_ne _ _ (by omega), hn, if_pos (Int32.le_refl _)]
  | succ m ih =>
    intro i f hi hf
    obtain ⟨f, rfl⟩ : ∃ g, f = g + 1 := ⟨f - 1, by omega⟩
    unfold f_X7_rest_L2
    rw [sR_ne _ _ (by omega), hn, if_neg (fun q => by rw [io_le (by omega) (by omega)] at q; omega)]
    rw [← ih (i + 1) f (by omega) (by omega)]
    simp (disch := omega) only [restJ, zlE, zbE, sV_eq, sR_at, sR_sR, sR_ne, ru_at, ru_ne, um, m0, io_in, io_cl, eq_self, if_true, ite_true, ix_c7_0, ix_c7_1, ix_c7_2, ix_c7_3, ix_c7_4, ix_c7_5, ix_c7_6, io_sc]
theorem c_rest_L50 (ho : 17 ≤ o) {ex : Int32 → zS → Option (Unit × zS)} {n : Int32} {r : Nat → Int32} (hn : S.1 12 1 = Int32.ofNat nh) (h4 : nh ≤ 6) : ∀ (m i f : Nat), i + m = nh → m < f → f_X7_rest_L50 o ex n f (Int32.ofNat i) (sR S (o + 1) (restH (fun k => S.1 13 (24 + k)) n i r)) = ex (Int32.ofNat nh) (sR S (o + 1) (restH (fun k => S.1 13 (24 + k)) n nh r)) := by
  intro m
  induction m with
  | zero =>
    intro i f hi hf
    obtain ⟨f, rfl⟩ : ∃ g, f = g + 1 := ⟨f - 1, by omega⟩
    have hi : i = nh := by omega
    subst hi
    unfold f_X7_rest_L50
    rw [sR_ne _ _ (by omega), hn, if_pos (Int32.le_refl _)]
  | succ m ih =>
    intro i f hi hf
    obtain ⟨f, rfl⟩ : ∃ g, f = g + 1 := ⟨f - 1, by omega⟩
    unfold f_X7_rest_L50
    rw [sR_ne _ _ (by omega), hn, if_neg (fun q => by rw [io_le (by omega) (by omega)] at q; omega)]
    rw [← ih (i + 1) f (by omega) (by omega)]
    simp (disch := omega) only [restH, f_X7_lid, f_X7_setLid, f_X7_lessenLid, f_X7_handCell, f_X7_setHand, f_X7_jarCell, f_X7_hold, f_X7_onTable, f_X7_minute, zlE, zbE, sV_eq, sR_at, sR_sR, sR_ne, ru_at, ru_ne, um, m0, io_in, io_cl, eq_self, if_true, ite_true, ix_c2_0, ix_c2_1, c_item1_0, io_sc]
theorem c_rest (ho : 17 ≤ o) (hj : S.1 12 0 = Int32.ofNat nj) (h4 : nj ≤ 4) (hh : S.1 12 1 = Int32.ofNat nh) (h6 : nh ≤ 6) (n : Int32) : f_X7_rest o n S = some ((), sR S (o + 1) (restM (fun k => S.1 13 (24 + k)) nj nh n (S.1 (o + 1)))) := by
  have e1 := c_rest_L2 (S := S) ho (ex := fun (q8 : Int32) (S7 : zS) =>
    f_X7_rest_L50 o (fun (q27 : Int32) (S26 : zS) =>
    zl (sV S26 (o + 1) 65 ((S26.1 (o + 1) 65) + n)) fun S28 =>
    some ((), S28)) n zN 0 S7) (n := n) hj h4 nj 0 zN (by omega) (by unfold zN; omega)
  have e2 := c_rest_L50 (S := S) ho (ex := fun (q27 : Int32) (S26 : zS) =>
    zl (sV S26 (o + 1) 65 ((S26.1 (o + 1) 65) + n)) fun S28 =>
    some ((), S28)) (n := n) (r := restJ n nj (S.1 (o + 1))) hh h6 nh 0 zN (by omega) (by unfold zN; omega)
  simp only [restJ, restH, sR_self] at e1 e2
  unfold f_X7_rest restM
  refine e1.trans (e2.trans ?_)
  simp (disch := omega) only [zlE, zbE, sV_eq, sR_at, sR_sR, sR_ne, ru_at, ru_ne, um, m0, io_in, io_cl, eq_self, if_true, ite_true]
theorem c_close_L27 (ho : 17 ≤ o) {ex : Int32 → zS → Option (Unit × zS)} {x : Int32} {r : Nat → Int32} (hT : r 64 = Int32.ofNat tb) (hb : tb < 4) (hn : S.1 12 1 = Int32.ofNat nh) (h4 : nh ≤ 6) : ∀ (m i f : Nat), i + m = nh → m < f → f_X7_close_L27 o ex x f (Int32.ofNat i) (sR S (o + 1) (closeL loC tb i r)) = ex (Int32.ofNat nh) (sR S (o + 1) (closeL loC tb nh r)) := by
  have ht : ∀ i, i ≤ 6 → closeL loC tb i r 64 = Int32.ofNat tb := by
    intro i
    induction i with
    | zero => intro _; exact hT
    | succ i ih => intro hi; unfold closeL; rw [ru_ne (by unfold loC; omega)]; exact ih (by omega)
  have e0 : ∀ (i : Nat) (U : zS), f_X7_loosenedCell o (Int32.ofNat i) U = some ((40 + (U.1 (o + 1) 64) * 6) + Int32.ofNat i, U) := fun _ _ => rfl
  intro m
  induction m with
  | zero =>
    intro i f hi hf
    obtain ⟨f, rfl⟩ : ∃ g, f = g + 1 := ⟨f - 1, by omega⟩
    have hi : i = nh := by omega
    subst hi
    unfold f_X7_close_L27
    rw [sR_ne _ _ (by omega), hn, if_pos (Int32.le_refl _)]
  | succ m ih =>
    intro i f hi hf
    obtain ⟨f, rfl⟩ : ∃ g, f = g + 1 := ⟨f - 1, by omega⟩
    unfold f_X7_close_L27
    rw [sR_ne _ _ (by omega), hn, if_neg (fun q => by rw [io_le (by omega) (by omega)] at q; omega)]
    rw [← ih (i + 1) f (by omega) (by omega), e0, zbE, sR_at, ht i (by omega)]
    simp (disch := omega) only [closeL, loC, zlE, zbE, sV_eq, sR_at, sR_sR, sR_ne, ru_at, ru_ne, um, m0, io_in, io_cl, eq_self, if_true, ite_true, ix_cl, io_sc]
theorem c_close (ho : 17 ≤ o) (hT : S.1 (o + 1) 64 = Int32.ofNat tb) (hb : tb < 4) (hh : h < 6) (hn : S.1 12 1 = Int32.ofNat nh) (h6 : nh ≤ 6) : f_X7_close o (Int32.ofNat h) S = some ((), sR S (o + 1) (closeM loC nh tb h (S.1 (o + 1)))) := by
  have e1 := c_close_L27 (S := S) ho (ex := fun (q21 : Int32) (S20 : zS) =>
    zl (sV S20 (o + 1) 65 ((S20.1 (o + 1) 65) + 1)) fun S22 =>
    some ((), S22)) (x := Int32.ofNat h) (r := ru (ru (ru (S.1 (o + 1)) (7 * tb + 5) 0) (7 * tb + 1) (S.1 (o + 1) (28 + 2 * h) / 2)) (7 * tb) 0) (tb := tb) (by
      simp (disch := omega) only [ru_ne, hT]) hb hn h6 nh 0 zN (by omega) (by unfold zN; omega)
  simp only [closeL] at e1
  unfold closeM
  have e2 : f_X7_close o (Int32.ofNat h) S = f_X7_close_L27 o (fun (q21 : Int32) (S20 : zS) =>
    zl (sV S20 (o + 1) 65 ((S20.1 (o + 1) 65) + 1)) fun S22 =>
    some ((), S22)) (Int32.ofNat h) zN (Int32.ofNat 0) (sR S (o + 1) (ru (ru (ru (S.1 (o + 1)) (7 * tb + 5) 0) (7 * tb + 1) (S.1 (o + 1) (28 + 2 * h) / 2)) (7 * tb) 0)) := by
    simp (disch := omega) only [f_X7_close, hT, f_X7_lid, f_X7_setLid, f_X7_lessenLid, f_X7_handCell, f_X7_setHand, f_X7_jarCell, f_X7_hold, f_X7_onTable, f_X7_minute, zlE, zbE, sV_eq, sR_at, sR_sR, sR_ne, ru_at, ru_ne, um, m0, io_in, io_cl, eq_self, if_true, ite_true, ix_c7_0, ix_c7_1, ix_c7_2, ix_c7_3, ix_c7_4, ix_c7_5, ix_c7_6, ix_c2_0]
    rfl
  rw [e2, e1]
  simp (disch := omega) only [zlE, zbE, sV_eq, sR_at, sR_sR, sR_ne, ru_at, ru_ne, um, m0, io_in, io_cl, eq_self, if_true, ite_true]
theorem c_take {p : Nat} : f_X7_take o p S = some ((), sC S (p + 1) 0 (o + 1) 0 66) := by
  have e0 : ((66 : Int32).toNatClampNeg) = 66 := by decide
  have e1 : ((0 : Int32).toNatClampNeg) = 0 := by decide
  unfold f_X7_take
  rw [if_pos (by decide), zlE, e0, e1]
end C
end MB
