/-! Strings (written by wip/whole/gen_str.py). -/
section OS
theorem b8t : ∀ v, v < 256 → ((Int32.ofNat v).toInt8.toInt32).toInt = if v < 128 then (v : Int) else (v : Int) - 256 := by decide +kernel
theorem chr_t : ∀ v, v < 256 → ((Int32.ofNat v).toUInt32 % 65536).toInt32 = Int32.ofNat v := by decide +kernel
theorem b8 {v x : Nat} (hv : v < 256) (hx : x < 128) : Int32.ofNat x = (Int32.ofNat v).toInt8.toInt32 ↔ v = x := by
  have e := b8t v hv
  have t := ti_nat (n := x) (by omega)
  constructor
  · intro q
    rw [← q, t] at e
    split at e <;> omega
  · intro q
    apply ti_inj
    rw [e, t, if_pos (by omega), q]
theorem c_enc {v : Nat} (hv : v < 256) (S : zS) : f_J1_canEncode_9a6ad (Int32.ofNat v) S = some (1, S) := by
  unfold f_J1_canEncode_9a6ad
  rw [if_neg (fun q => by rw [i_lt0, ti_nat (by omega)] at q; omega), if_neg (fun q => by have := (io_lt (a := 255) (by omega) (by omega)).mp q; omega)]
def sx_0 (v : Nat) : Int32 := if v = 106 then 0 else if v = 104 then 1 else if v = 116 then 2 else -1
theorem c_idx_0 {v : Nat} (hv : v < 256) (S : zS) : f_J0_indexOf_0f7a4_1000100 (((Int32.ofNat v).toUInt32 % 65536).toInt32) S = some (sx_0 v, S) := by
  have lp : ∀ z : Nat, f_J1_indexOfChar_4cfef_1000200_L7 (fun (q7 : Int32) (S6 : zS) => some ((-1), S6)) (Int32.ofNat v) 0 3 ((Int32.ofNat v).toInt8.toInt32) (z + 4) 0 S = some (sx_0 v, S) := by
    intro z
    unfold sx_0
    rw [f_J1_indexOfChar_4cfef_1000200_L7, if_neg (show ¬ (3 : Int32) ≤ 0 by decide), if_pos (show ia_in (0 : Int32) 3 = true by decide), show zc_1000200 (Int32.toNatClampNeg 0) = Int32.ofNat 106 by decide]
    by_cases h0 : v = 106
    · rw [if_neg (fun q => q ((b8 hv (by decide)).mpr h0)), if_pos h0]
    rw [if_pos (fun q => h0 ((b8 hv (by decide)).mp q)), if_neg h0, zlE, show (0 : Int32) + 1 = 1 by decide]
    rw [f_J1_indexOfChar_4cfef_1000200_L7, if_neg (show ¬ (3 : Int32) ≤ 1 by decide), if_pos (show ia_in (1 : Int32) 3 = true by decide), show zc_1000200 (Int32.toNatClampNeg 1) = Int32.ofNat 104 by decide]
    by_cases h1 : v = 104
    · rw [if_neg (fun q => q ((b8 hv (by decide)).mpr h1)), if_pos h1]
    rw [if_pos (fun q => h1 ((b8 hv (by decide)).mp q)), if_neg h1, zlE, show (1 : Int32) + 1 = 2 by decide]
    rw [f_J1_indexOfChar_4cfef_1000200_L7, if_neg (show ¬ (3 : Int32) ≤ 2 by decide), if_pos (show ia_in (2 : Int32) 3 = true by decide), show zc_1000200 (Int32.toNatClampNeg 2) = Int32.ofNat 116 by decide]
    by_cases h2 : v = 116
    · rw [if_neg (fun q => q ((b8 hv (by decide)).mpr h2)), if_pos h2]
    rw [if_pos (fun q => h2 ((b8 hv (by decide)).mp q)), if_neg h2, zlE, show (2 : Int32) + 1 = 3 by decide]
    rw [f_J1_indexOfChar_4cfef_1000200_L7, if_pos (show (3 : Int32) ≤ 3 by decide)]
  rw [chr_t v hv]
  unfold f_J0_indexOf_0f7a4_1000100 f_J0_indexOf_7cf53_1000100 f_J1_indexOf_4cfef_1000200 f_J1_indexOfChar_4cfef_1000200
  rw [show f_J0_isLatin1_aae02_1000100 S = some (1, S) from rfl, zbE, if_neg (show ¬ (1 : Int32) = 0 by decide), show f_J0_length_8abf5_1000100 S = some (3, S) from rfl, zbE, c_enc hv, zbE, if_pos (show ¬ (1 : Int32) = 0 by decide), zlE, zlE, if_neg (show ¬ (0 : Int32) < 0 by decide), if_neg (show ¬ (3 : Int32) < 3 by decide), if_pos (show (0 : Int32) < 3 by decide), zlE, show zN = 4996 + 4 from rfl, lp 4996, zbE, zbE, zbE]
def sx_1 (v : Nat) : Int32 := if v = 118 then 0 else if v = 115 then 1 else if v = 99 then 2 else if v = 108 then 3 else if v = 119 then 4 else if v = 103 then 5 else -1
theorem c_idx_1 {v : Nat} (hv : v < 256) (S : zS) : f_J0_indexOf_0f7a4_1000101 (((Int32.ofNat v).toUInt32 % 65536).toInt32) S = some (sx_1 v, S) := by
  have lp : ∀ z : Nat, f_J1_indexOfChar_4cfef_1000201_L7 (fun (q7 : Int32) (S6 : zS) => some ((-1), S6)) (Int32.ofNat v) 0 6 ((Int32.ofNat v).toInt8.toInt32) (z + 7) 0 S = some (sx_1 v, S) := by
    intro z
    unfold sx_1
    rw [f_J1_indexOfChar_4cfef_1000201_L7, if_neg (show ¬ (6 : Int32) ≤ 0 by decide), if_pos (show ia_in (0 : Int32) 6 = true by decide), show zc_1000201 (Int32.toNatClampNeg 0) = Int32.ofNat 118 by decide]
    by_cases h0 : v = 118
    · rw [if_neg (fun q => q ((b8 hv (by decide)).mpr h0)), if_pos h0]
    rw [if_pos (fun q => h0 ((b8 hv (by decide)).mp q)), if_neg h0, zlE, show (0 : Int32) + 1 = 1 by decide]
    rw [f_J1_indexOfChar_4cfef_1000201_L7, if_neg (show ¬ (6 : Int32) ≤ 1 by decide), if_pos (show ia_in (1 : Int32) 6 = true by decide), show zc_1000201 (Int32.toNatClampNeg 1) = Int32.ofNat 115 by decide]
    by_cases h1 : v = 115
    · rw [if_neg (fun q => q ((b8 hv (by decide)).mpr h1)), if_pos h1]
    rw [if_pos (fun q => h1 ((b8 hv (by decide)).mp q)), if_neg h1, zlE, show (1 : Int32) + 1 = 2 by decide]
    rw [f_J1_indexOfChar_4cfef_1000201_L7, if_neg (show ¬ (6 : Int32) ≤ 2 by decide), if_pos (show ia_in (2 : Int32) 6 = true by decide), show zc_1000201 (Int32.toNatClampNeg 2) = Int32.ofNat 99 by decide]
    by_cases h2 : v = 99
    · rw [if_neg (fun q => q ((b8 hv (by decide)).mpr h2)), if_pos h2]
    rw [if_pos (fun q => h2 ((b8 hv (by decide)).mp q)), if_neg h2, zlE, show (2 : Int32) + 1 = 3 by decide]
    rw [f_J1_indexOfChar_4cfef_1000201_L7, if_neg (show ¬ (6 : Int32) ≤ 3 by decide), if_pos (show ia_in (3 : Int32) 6 = true by decide), show zc_1000201 (Int32.toNatClampNeg 3) = Int32.ofNat 108 by decide]
    by_cases h3 : v = 108
    · rw [if_neg (fun q => q ((b8 hv (by decide)).mpr h3)), if_pos h3]
    rw [if_pos (fun q => h3 ((b8 hv (by decide)).mp q)), if_neg h3, zlE, show (3 : Int32) + 1 = 4 by decide]
    rw [f_J1_indexOfChar_4cfef_1000201_L7, if_neg (show ¬ (6 : Int32) ≤ 4 by decide), if_pos (show ia_in (4 : Int32) 6 = true by decide), show zc_1000201 (Int32.toNatClampNeg 4) = Int32.ofNat 119 by decide]
    by_cases h4 : v = 119
    · rw [if_neg (fun q => q ((b8 hv (by decide)).mpr h4)), if_pos h4]
    rw [if_pos (fun q => h4 ((b8 hv (by decide)).mp q)), if_neg h4, zlE, show (4 : Int32) + 1 = 5 by decide]
    rw [f_J1_indexOfChar_4cfef_1000201_L7, if_neg (show ¬ (6 : Int32) ≤ 5 by decide), if_pos (show ia_in (5 : Int32) 6 = true by decide), show zc_1000201 (Int32.toNatClampNeg 5) = Int32.ofNat 103 by decide]
    by_cases h5 : v = 103
    · rw [if_neg (fun q => q ((b8 hv (by decide)).mpr h5)), if_pos h5]
    rw [if_pos (fun q => h5 ((b8 hv (by decide)).mp q)), if_neg h5, zlE, show (5 : Int32) + 1 = 6 by decide]
    rw [f_J1_indexOfChar_4cfef_1000201_L7, if_pos (show (6 : Int32) ≤ 6 by decide)]
  rw [chr_t v hv]
  unfold f_J0_indexOf_0f7a4_1000101 f_J0_indexOf_7cf53_1000101 f_J1_indexOf_4cfef_1000201 f_J1_indexOfChar_4cfef_1000201
  rw [show f_J0_isLatin1_aae02_1000101 S = some (1, S) from rfl, zbE, if_neg (show ¬ (1 : Int32) = 0 by decide), show f_J0_length_8abf5_1000101 S = some (6, S) from rfl, zbE, c_enc hv, zbE, if_pos (show ¬ (1 : Int32) = 0 by decide), zlE, zlE, if_neg (show ¬ (0 : Int32) < 0 by decide), if_neg (show ¬ (6 : Int32) < 6 by decide), if_pos (show (0 : Int32) < 6 by decide), zlE, show zN = 4993 + 7 from rfl, lp 4993, zbE, zbE, zbE]
def px_1 (v : Int32) : Int32 := if 118 = v then 0 else if 115 = v then 1 else if 99 = v then 2 else if 108 = v then 3 else if 119 = v then 4 else if 103 = v then 5 else -1
theorem r_pl_1 (v : Int32) (S : zS) : f_X12_placeOf_1000101 v S = some (px_1 v, S) := by
  have ln : f_J0_length_8abf5_1000101 S = some (6, S) := rfl
  have lp : ∀ z : Nat, f_X12_placeOf_1000101_L2 (fun (q11 : Int32) (S10 : zS) => some ((-1), S10)) v (z + 7) 0 S = some (px_1 v, S) := by
    intro z
    unfold px_1
    rw [f_X12_placeOf_1000101_L2, ln, zbE, if_neg (show ¬ (6 : Int32) ≤ 0 by decide), show f_J0_charAt_5068e_1000101 0 S = some (118, S) from rfl, zbE]
    by_cases h0 : (118 : Int32) = v
    · rw [if_neg (fun q => q h0), if_pos h0]
    rw [if_pos h0, if_neg h0, zlE, show (0 : Int32) + 1 = 1 by decide]
    rw [f_X12_placeOf_1000101_L2, ln, zbE, if_neg (show ¬ (6 : Int32) ≤ 1 by decide), show f_J0_charAt_5068e_1000101 1 S = some (115, S) from rfl, zbE]
    by_cases h1 : (115 : Int32) = v
    · rw [if_neg (fun q => q h1), if_pos h1]
    rw [if_pos h1, if_neg h1, zlE, show (1 : Int32) + 1 = 2 by decide]
    rw [f_X12_placeOf_1000101_L2, ln, zbE, if_neg (show ¬ (6 : Int32) ≤ 2 by decide), show f_J0_charAt_5068e_1000101 2 S = some (99, S) from rfl, zbE]
    by_cases h2 : (99 : Int32) = v
    · rw [if_neg (fun q => q h2), if_pos h2]
    rw [if_pos h2, if_neg h2, zlE, show (2 : Int32) + 1 = 3 by decide]
    rw [f_X12_placeOf_1000101_L2, ln, zbE, if_neg (show ¬ (6 : Int32) ≤ 3 by decide), show f_J0_charAt_5068e_1000101 3 S = some (108, S) from rfl, zbE]
    by_cases h3 : (108 : Int32) = v
    · rw [if_neg (fun q => q h3), if_pos h3]
    rw [if_pos h3, if_neg h3, zlE, show (3 : Int32) + 1 = 4 by decide]
    rw [f_X12_placeOf_1000101_L2, ln, zbE, if_neg (show ¬ (6 : Int32) ≤ 4 by decide), show f_J0_charAt_5068e_1000101 4 S = some (119, S) from rfl, zbE]
    by_cases h4 : (119 : Int32) = v
    · rw [if_neg (fun q => q h4), if_pos h4]
    rw [if_pos h4, if_neg h4, zlE, show (4 : Int32) + 1 = 5 by decide]
    rw [f_X12_placeOf_1000101_L2, ln, zbE, if_neg (show ¬ (6 : Int32) ≤ 5 by decide), show f_J0_charAt_5068e_1000101 5 S = some (103, S) from rfl, zbE]
    by_cases h5 : (103 : Int32) = v
    · rw [if_neg (fun q => q h5), if_pos h5]
    rw [if_pos h5, if_neg h5, zlE, show (5 : Int32) + 1 = 6 by decide]
    rw [f_X12_placeOf_1000101_L2, ln, zbE, if_pos (show (6 : Int32) ≤ 6 by decide)]
  unfold f_X12_placeOf_1000101
  rw [show zN = 4993 + 7 from rfl]
  exact lp _
def sx_2 (v : Nat) : Int32 := if v = 112 then 0 else if v = 115 then 1 else if v = 119 then 2 else if v = 116 then 3 else if v = 101 then 4 else -1
theorem c_idx_2 {v : Nat} (hv : v < 256) (S : zS) : f_J0_indexOf_0f7a4_1000102 (((Int32.ofNat v).toUInt32 % 65536).toInt32) S = some (sx_2 v, S) := by
  have lp : ∀ z : Nat, f_J1_indexOfChar_4cfef_1000202_L7 (fun (q7 : Int32) (S6 : zS) => some ((-1), S6)) (Int32.ofNat v) 0 5 ((Int32.ofNat v).toInt8.toInt32) (z + 6) 0 S = some (sx_2 v, S) := by
    intro z
    unfold sx_2
    rw [f_J1_indexOfChar_4cfef_1000202_L7, if_neg (show ¬ (5 : Int32) ≤ 0 by decide), if_pos (show ia_in (0 : Int32) 5 = true by decide), show zc_1000202 (Int32.toNatClampNeg 0) = Int32.ofNat 112 by decide]
    by_cases h0 : v = 112
    · rw [if_neg (fun q => q ((b8 hv (by decide)).mpr h0)), if_pos h0]
    rw [if_pos (fun q => h0 ((b8 hv (by decide)).mp q)), if_neg h0, zlE, show (0 : Int32) + 1 = 1 by decide]
    rw [f_J1_indexOfChar_4cfef_1000202_L7, if_neg (show ¬ (5 : Int32) ≤ 1 by decide), if_pos (show ia_in (1 : Int32) 5 = true by decide), show zc_1000202 (Int32.toNatClampNeg 1) = Int32.ofNat 115 by decide]
    by_cases h1 : v = 115
    · rw [if_neg (fun q => q ((b8 hv (by decide)).mpr h1)), if_pos h1]
    rw [if_pos (fun q => h1 ((b8 hv (by decide)).mp q)), if_neg h1, zlE, show (1 : Int32) + 1 = 2 by decide]
    rw [f_J1_indexOfChar_4cfef_1000202_L7, if_neg (show ¬ (5 : Int32) ≤ 2 by decide), if_pos (show ia_in (2 : Int32) 5 = true by decide), show zc_1000202 (Int32.toNatClampNeg 2) = Int32.ofNat 119 by decide]
    by_cases h2 : v = 119
    · rw [if_neg (fun q => q ((b8 hv (by decide)).mpr h2)), if_pos h2]
    rw [if_pos (fun q => h2 ((b8 hv (by decide)).mp q)), if_neg h2, zlE, show (2 : Int32) + 1 = 3 by decide]
    rw [f_J1_indexOfChar_4cfef_1000202_L7, if_neg (show ¬ (5 : Int32) ≤ 3 by decide), if_pos (show ia_in (3 : Int32) 5 = true by decide), show zc_1000202 (Int32.toNatClampNeg 3) = Int32.ofNat 116 by decide]
    by_cases h3 : v = 116
    · rw [if_neg (fun q => q ((b8 hv (by decide)).mpr h3)), if_pos h3]
    rw [if_pos (fun q => h3 ((b8 hv (by decide)).mp q)), if_neg h3, zlE, show (3 : Int32) + 1 = 4 by decide]
    rw [f_J1_indexOfChar_4cfef_1000202_L7, if_neg (show ¬ (5 : Int32) ≤ 4 by decide), if_pos (show ia_in (4 : Int32) 5 = true by decide), show zc_1000202 (Int32.toNatClampNeg 4) = Int32.ofNat 101 by decide]
    by_cases h4 : v = 101
    · rw [if_neg (fun q => q ((b8 hv (by decide)).mpr h4)), if_pos h4]
    rw [if_pos (fun q => h4 ((b8 hv (by decide)).mp q)), if_neg h4, zlE, show (4 : Int32) + 1 = 5 by decide]
    rw [f_J1_indexOfChar_4cfef_1000202_L7, if_pos (show (5 : Int32) ≤ 5 by decide)]
  rw [chr_t v hv]
  unfold f_J0_indexOf_0f7a4_1000102 f_J0_indexOf_7cf53_1000102 f_J1_indexOf_4cfef_1000202 f_J1_indexOfChar_4cfef_1000202
  rw [show f_J0_isLatin1_aae02_1000102 S = some (1, S) from rfl, zbE, if_neg (show ¬ (1 : Int32) = 0 by decide), show f_J0_length_8abf5_1000102 S = some (5, S) from rfl, zbE, c_enc hv, zbE, if_pos (show ¬ (1 : Int32) = 0 by decide), zlE, zlE, if_neg (show ¬ (0 : Int32) < 0 by decide), if_neg (show ¬ (5 : Int32) < 5 by decide), if_pos (show (0 : Int32) < 5 by decide), zlE, show zN = 4994 + 6 from rfl, lp 4994, zbE, zbE, zbE]
def px_2 (v : Int32) : Int32 := if 112 = v then 0 else if 115 = v then 1 else if 119 = v then 2 else if 116 = v then 3 else if 101 = v then 4 else -1
theorem r_pl_2 (v : Int32) (S : zS) : f_X12_placeOf_1000102 v S = some (px_2 v, S) := by
  have ln : f_J0_length_8abf5_1000102 S = some (5, S) := rfl
  have lp : ∀ z : Nat, f_X12_placeOf_1000102_L2 (fun (q11 : Int32) (S10 : zS) => some ((-1), S10)) v (z + 6) 0 S = some (px_2 v, S) := by
    intro z
    unfold px_2
    rw [f_X12_placeOf_1000102_L2, ln, zbE, if_neg (show ¬ (5 : Int32) ≤ 0 by decide), show f_J0_charAt_5068e_1000102 0 S = some (112, S) from rfl, zbE]
    by_cases h0 : (112 : Int32) = v
    · rw [if_neg (fun q => q h0), if_pos h0]
    rw [if_pos h0, if_neg h0, zlE, show (0 : Int32) + 1 = 1 by decide]
    rw [f_X12_placeOf_1000102_L2, ln, zbE, if_neg (show ¬ (5 : Int32) ≤ 1 by decide), show f_J0_charAt_5068e_1000102 1 S = some (115, S) from rfl, zbE]
    by_cases h1 : (115 : Int32) = v
    · rw [if_neg (fun q => q h1), if_pos h1]
    rw [if_pos h1, if_neg h1, zlE, show (1 : Int32) + 1 = 2 by decide]
    rw [f_X12_placeOf_1000102_L2, ln, zbE, if_neg (show ¬ (5 : Int32) ≤ 2 by decide), show f_J0_charAt_5068e_1000102 2 S = some (119, S) from rfl, zbE]
    by_cases h2 : (119 : Int32) = v
    · rw [if_neg (fun q => q h2), if_pos h2]
    rw [if_pos h2, if_neg h2, zlE, show (2 : Int32) + 1 = 3 by decide]
    rw [f_X12_placeOf_1000102_L2, ln, zbE, if_neg (show ¬ (5 : Int32) ≤ 3 by decide), show f_J0_charAt_5068e_1000102 3 S = some (116, S) from rfl, zbE]
    by_cases h3 : (116 : Int32) = v
    · rw [if_neg (fun q => q h3), if_pos h3]
    rw [if_pos h3, if_neg h3, zlE, show (3 : Int32) + 1 = 4 by decide]
    rw [f_X12_placeOf_1000102_L2, ln, zbE, if_neg (show ¬ (5 : Int32) ≤ 4 by decide), show f_J0_charAt_5068e_1000102 4 S = some (101, S) from rfl, zbE]
    by_cases h4 : (101 : Int32) = v
    · rw [if_neg (fun q => q h4), if_pos h4]
    rw [if_pos h4, if_neg h4, zlE, show (4 : Int32) + 1 = 5 by decide]
    rw [f_X12_placeOf_1000102_L2, ln, zbE, if_pos (show (5 : Int32) ≤ 5 by decide)]
  unfold f_X12_placeOf_1000102
  rw [show zN = 4994 + 6 from rfl]
  exact lp _
def sx_3 (v : Nat) : Int32 := if v = 97 then 0 else if v = 99 then 1 else -1
theorem c_idx_3 {v : Nat} (hv : v < 256) (S : zS) : f_J0_indexOf_0f7a4_1000103 (((Int32.ofNat v).toUInt32 % 65536).toInt32) S = some (sx_3 v, S) := by
  have lp : ∀ z : Nat, f_J1_indexOfChar_4cfef_1000203_L7 (fun (q7 : Int32) (S6 : zS) => some ((-1), S6)) (Int32.ofNat v) 0 2 ((Int32.ofNat v).toInt8.toInt32) (z + 3) 0 S = some (sx_3 v, S) := by
    intro z
    unfold sx_3
    rw [f_J1_indexOfChar_4cfef_1000203_L7, if_neg (show ¬ (2 : Int32) ≤ 0 by decide), if_pos (show ia_in (0 : Int32) 2 = true by decide), show zc_1000203 (Int32.toNatClampNeg 0) = Int32.ofNat 97 by decide]
    by_cases h0 : v = 97
    · rw [if_neg (fun q => q ((b8 hv (by decide)).mpr h0)), if_pos h0]
    rw [if_pos (fun q => h0 ((b8 hv (by decide)).mp q)), if_neg h0, zlE, show (0 : Int32) + 1 = 1 by decide]
    rw [f_J1_indexOfChar_4cfef_1000203_L7, if_neg (show ¬ (2 : Int32) ≤ 1 by decide), if_pos (show ia_in (1 : Int32) 2 = true by decide), show zc_1000203 (Int32.toNatClampNeg 1) = Int32.ofNat 99 by decide]
    by_cases h1 : v = 99
    · rw [if_neg (fun q => q ((b8 hv (by decide)).mpr h1)), if_pos h1]
    rw [if_pos (fun q => h1 ((b8 hv (by decide)).mp q)), if_neg h1, zlE, show (1 : Int32) + 1 = 2 by decide]
    rw [f_J1_indexOfChar_4cfef_1000203_L7, if_pos (show (2 : Int32) ≤ 2 by decide)]
  rw [chr_t v hv]
  unfold f_J0_indexOf_0f7a4_1000103 f_J0_indexOf_7cf53_1000103 f_J1_indexOf_4cfef_1000203 f_J1_indexOfChar_4cfef_1000203
  rw [show f_J0_isLatin1_aae02_1000103 S = some (1, S) from rfl, zbE, if_neg (show ¬ (1 : Int32) = 0 by decide), show f_J0_length_8abf5_1000103 S = some (2, S) from rfl, zbE, c_enc hv, zbE, if_pos (show ¬ (1 : Int32) = 0 by decide), zlE, zlE, if_neg (show ¬ (0 : Int32) < 0 by decide), if_neg (show ¬ (2 : Int32) < 2 by decide), if_pos (show (0 : Int32) < 2 by decide), zlE, show zN = 4997 + 3 from rfl, lp 4997, zbE, zbE, zbE]
def px_3 (v : Int32) : Int32 := if 97 = v then 0 else if 99 = v then 1 else -1
theorem r_pl_3 (v : Int32) (S : zS) : f_X12_placeOf_1000103 v S = some (px_3 v, S) := by
  have ln : f_J0_length_8abf5_1000103 S = some (2, S) := rfl
  have lp : ∀ z : Nat, f_X12_placeOf_1000103_L2 (fun (q11 : Int32) (S10 : zS) => some ((-1), S10)) v (z + 3) 0 S = some (px_3 v, S) := by
    intro z
    unfold px_3
    rw [f_X12_placeOf_1000103_L2, ln, zbE, if_neg (show ¬ (2 : Int32) ≤ 0 by decide), show f_J0_charAt_5068e_1000103 0 S = some (97, S) from rfl, zbE]
    by_cases h0 : (97 : Int32) = v
    · rw [if_neg (fun q => q h0), if_pos h0]
    rw [if_pos h0, if_neg h0, zlE, show (0 : Int32) + 1 = 1 by decide]
    rw [f_X12_placeOf_1000103_L2, ln, zbE, if_neg (show ¬ (2 : Int32) ≤ 1 by decide), show f_J0_charAt_5068e_1000103 1 S = some (99, S) from rfl, zbE]
    by_cases h1 : (99 : Int32) = v
    · rw [if_neg (fun q => q h1), if_pos h1]
    rw [if_pos h1, if_neg h1, zlE, show (1 : Int32) + 1 = 2 by decide]
    rw [f_X12_placeOf_1000103_L2, ln, zbE, if_pos (show (2 : Int32) ≤ 2 by decide)]
  unfold f_X12_placeOf_1000103
  rw [show zN = 4997 + 3 from rfl]
  exact lp _
def sx_4 (v : Nat) : Int32 := if v = 112 then 0 else if v = 115 then 1 else if v = 119 then 2 else if v = 105 then 3 else if v = 99 then 4 else if v = 97 then 5 else -1
theorem c_idx_4 {v : Nat} (hv : v < 256) (S : zS) : f_J0_indexOf_0f7a4_1000104 (((Int32.ofNat v).toUInt32 % 65536).toInt32) S = some (sx_4 v, S) := by
  have lp : ∀ z : Nat, f_J1_indexOfChar_4cfef_1000204_L7 (fun (q7 : Int32) (S6 : zS) => some ((-1), S6)) (Int32.ofNat v) 0 6 ((Int32.ofNat v).toInt8.toInt32) (z + 7) 0 S = some (sx_4 v, S) := by
    intro z
    unfold sx_4
    rw [f_J1_indexOfChar_4cfef_1000204_L7, if_neg (show ¬ (6 : Int32) ≤ 0 by decide), if_pos (show ia_in (0 : Int32) 6 = true by decide), show zc_1000204 (Int32.toNatClampNeg 0) = Int32.ofNat 112 by decide]
    by_cases h0 : v = 112
    · rw [if_neg (fun q => q ((b8 hv (by decide)).mpr h0)), if_pos h0]
    rw [if_pos (fun q => h0 ((b8 hv (by decide)).mp q)), if_neg h0, zlE, show (0 : Int32) + 1 = 1 by decide]
    rw [f_J1_indexOfChar_4cfef_1000204_L7, if_neg (show ¬ (6 : Int32) ≤ 1 by decide), if_pos (show ia_in (1 : Int32) 6 = true by decide), show zc_1000204 (Int32.toNatClampNeg 1) = Int32.ofNat 115 by decide]
    by_cases h1 : v = 115
    · rw [if_neg (fun q => q ((b8 hv (by decide)).mpr h1)), if_pos h1]
    rw [if_pos (fun q => h1 ((b8 hv (by decide)).mp q)), if_neg h1, zlE, show (1 : Int32) + 1 = 2 by decide]
    rw [f_J1_indexOfChar_4cfef_1000204_L7, if_neg (show ¬ (6 : Int32) ≤ 2 by decide), if_pos (show ia_in (2 : Int32) 6 = true by decide), show zc_1000204 (Int32.toNatClampNeg 2) = Int32.ofNat 119 by decide]
    by_cases h2 : v = 119
    · rw [if_neg (fun q => q ((b8 hv (by decide)).mpr h2)), if_pos h2]
    rw [if_pos (fun q => h2 ((b8 hv (by decide)).mp q)), if_neg h2, zlE, show (2 : Int32) + 1 = 3 by decide]
    rw [f_J1_indexOfChar_4cfef_1000204_L7, if_neg (show ¬ (6 : Int32) ≤ 3 by decide), if_pos (show ia_in (3 : Int32) 6 = true by decide), show zc_1000204 (Int32.toNatClampNeg 3) = Int32.ofNat 105 by decide]
    by_cases h3 : v = 105
    · rw [if_neg (fun q => q ((b8 hv (by decide)).mpr h3)), if_pos h3]
    rw [if_pos (fun q => h3 ((b8 hv (by decide)).mp q)), if_neg h3, zlE, show (3 : Int32) + 1 = 4 by decide]
    rw [f_J1_indexOfChar_4cfef_1000204_L7, if_neg (show ¬ (6 : Int32) ≤ 4 by decide), if_pos (show ia_in (4 : Int32) 6 = true by decide), show zc_1000204 (Int32.toNatClampNeg 4) = Int32.ofNat 99 by decide]
    by_cases h4 : v = 99
    · rw [if_neg (fun q => q ((b8 hv (by decide)).mpr h4)), if_pos h4]
    rw [if_pos (fun q => h4 ((b8 hv (by decide)).mp q)), if_neg h4, zlE, show (4 : Int32) + 1 = 5 by decide]
    rw [f_J1_indexOfChar_4cfef_1000204_L7, if_neg (show ¬ (6 : Int32) ≤ 5 by decide), if_pos (show ia_in (5 : Int32) 6 = true by decide), show zc_1000204 (Int32.toNatClampNeg 5) = Int32.ofNat 97 by decide]
    by_cases h5 : v = 97
    · rw [if_neg (fun q => q ((b8 hv (by decide)).mpr h5)), if_pos h5]
    rw [if_pos (fun q => h5 ((b8 hv (by decide)).mp q)), if_neg h5, zlE, show (5 : Int32) + 1 = 6 by decide]
    rw [f_J1_indexOfChar_4cfef_1000204_L7, if_pos (show (6 : Int32) ≤ 6 by decide)]
  rw [chr_t v hv]
  unfold f_J0_indexOf_0f7a4_1000104 f_J0_indexOf_7cf53_1000104 f_J1_indexOf_4cfef_1000204 f_J1_indexOfChar_4cfef_1000204
  rw [show f_J0_isLatin1_aae02_1000104 S = some (1, S) from rfl, zbE, if_neg (show ¬ (1 : Int32) = 0 by decide), show f_J0_length_8abf5_1000104 S = some (6, S) from rfl, zbE, c_enc hv, zbE, if_pos (show ¬ (1 : Int32) = 0 by decide), zlE, zlE, if_neg (show ¬ (0 : Int32) < 0 by decide), if_neg (show ¬ (6 : Int32) < 6 by decide), if_pos (show (0 : Int32) < 6 by decide), zlE, show zN = 4993 + 7 from rfl, lp 4993, zbE, zbE, zbE]
def ax_4 (v : Int32) : Int32 := if 112 = v then 1 else if 115 = v then 1 else if 119 = v then 1 else if 105 = v then 1 else if 99 = v then 1 else if 97 = v then 1 else 0
theorem r_am_4 (v : Int32) (S : zS) : f_X12_isAmong_1000104 v S = some (ax_4 v, S) := by
  have ln : f_J0_length_8abf5_1000104 S = some (6, S) := rfl
  have lp : ∀ z : Nat, f_X12_isAmong_1000104_L2 (fun (q11 : Int32) (S10 : zS) => some (0, S10)) v (z + 7) 0 S = some (ax_4 v, S) := by
    intro z
    unfold ax_4
    rw [f_X12_isAmong_1000104_L2, ln, zbE, if_neg (show ¬ (6 : Int32) ≤ 0 by decide), show f_J0_charAt_5068e_1000104 0 S = some (112, S) from rfl, zbE]
    by_cases h0 : (112 : Int32) = v
    · rw [if_neg (fun q => q h0), if_pos h0]
    rw [if_pos h0, if_neg h0, zlE, show (0 : Int32) + 1 = 1 by decide]
    rw [f_X12_isAmong_1000104_L2, ln, zbE, if_neg (show ¬ (6 : Int32) ≤ 1 by decide), show f_J0_charAt_5068e_1000104 1 S = some (115, S) from rfl, zbE]
    by_cases h1 : (115 : Int32) = v
    · rw [if_neg (fun q => q h1), if_pos h1]
    rw [if_pos h1, if_neg h1, zlE, show (1 : Int32) + 1 = 2 by decide]
    rw [f_X12_isAmong_1000104_L2, ln, zbE, if_neg (show ¬ (6 : Int32) ≤ 2 by decide), show f_J0_charAt_5068e_1000104 2 S = some (119, S) from rfl, zbE]
    by_cases h2 : (119 : Int32) = v
    · rw [if_neg (fun q => q h2), if_pos h2]
    rw [if_pos h2, if_neg h2, zlE, show (2 : Int32) + 1 = 3 by decide]
    rw [f_X12_isAmong_1000104_L2, ln, zbE, if_neg (show ¬ (6 : Int32) ≤ 3 by decide), show f_J0_charAt_5068e_1000104 3 S = some (105, S) from rfl, zbE]
    by_cases h3 : (105 : Int32) = v
    · rw [if_neg (fun q => q h3), if_pos h3]
    rw [if_pos h3, if_neg h3, zlE, show (3 : Int32) + 1 = 4 by decide]
    rw [f_X12_isAmong_1000104_L2, ln, zbE, if_neg (show ¬ (6 : Int32) ≤ 4 by decide), show f_J0_charAt_5068e_1000104 4 S = some (99, S) from rfl, zbE]
    by_cases h4 : (99 : Int32) = v
    · rw [if_neg (fun q => q h4), if_pos h4]
    rw [if_pos h4, if_neg h4, zlE, show (4 : Int32) + 1 = 5 by decide]
    rw [f_X12_isAmong_1000104_L2, ln, zbE, if_neg (show ¬ (6 : Int32) ≤ 5 by decide), show f_J0_charAt_5068e_1000104 5 S = some (97, S) from rfl, zbE]
    by_cases h5 : (97 : Int32) = v
    · rw [if_neg (fun q => q h5), if_pos h5]
    rw [if_pos h5, if_neg h5, zlE, show (5 : Int32) + 1 = 6 by decide]
    rw [f_X12_isAmong_1000104_L2, ln, zbE, if_pos (show (6 : Int32) ≤ 6 by decide)]
  unfold f_X12_isAmong_1000104
  rw [show zN = 4993 + 7 from rfl]
  exact lp _
def sx_5 (v : Nat) : Int32 := if v = 116 then 0 else if v = 107 then 1 else if v = 111 then 2 else if v = 104 then 3 else if v = 119 then 4 else -1
theorem c_idx_5 {v : Nat} (hv : v < 256) (S : zS) : f_J0_indexOf_0f7a4_1000105 (((Int32.ofNat v).toUInt32 % 65536).toInt32) S = some (sx_5 v, S) := by
  have lp : ∀ z : Nat, f_J1_indexOfChar_4cfef_1000205_L7 (fun (q7 : Int32) (S6 : zS) => some ((-1), S6)) (Int32.ofNat v) 0 5 ((Int32.ofNat v).toInt8.toInt32) (z + 6) 0 S = some (sx_5 v, S) := by
    intro z
    unfold sx_5
    rw [f_J1_indexOfChar_4cfef_1000205_L7, if_neg (show ¬ (5 : Int32) ≤ 0 by decide), if_pos (show ia_in (0 : Int32) 5 = true by decide), show zc_1000205 (Int32.toNatClampNeg 0) = Int32.ofNat 116 by decide]
    by_cases h0 : v = 116
    · rw [if_neg (fun q => q ((b8 hv (by decide)).mpr h0)), if_pos h0]
    rw [if_pos (fun q => h0 ((b8 hv (by decide)).mp q)), if_neg h0, zlE, show (0 : Int32) + 1 = 1 by decide]
    rw [f_J1_indexOfChar_4cfef_1000205_L7, if_neg (show ¬ (5 : Int32) ≤ 1 by decide), if_pos (show ia_in (1 : Int32) 5 = true by decide), show zc_1000205 (Int32.toNatClampNeg 1) = Int32.ofNat 107 by decide]
    by_cases h1 : v = 107
    · rw [if_neg (fun q => q ((b8 hv (by decide)).mpr h1)), if_pos h1]
    rw [if_pos (fun q => h1 ((b8 hv (by decide)).mp q)), if_neg h1, zlE, show (1 : Int32) + 1 = 2 by decide]
    rw [f_J1_indexOfChar_4cfef_1000205_L7, if_neg (show ¬ (5 : Int32) ≤ 2 by decide), if_pos (show ia_in (2 : Int32) 5 = true by decide), show zc_1000205 (Int32.toNatClampNeg 2) = Int32.ofNat 111 by decide]
    by_cases h2 : v = 111
    · rw [if_neg (fun q => q ((b8 hv (by decide)).mpr h2)), if_pos h2]
    rw [if_pos (fun q => h2 ((b8 hv (by decide)).mp q)), if_neg h2, zlE, show (2 : Int32) + 1 = 3 by decide]
    rw [f_J1_indexOfChar_4cfef_1000205_L7, if_neg (show ¬ (5 : Int32) ≤ 3 by decide), if_pos (show ia_in (3 : Int32) 5 = true by decide), show zc_1000205 (Int32.toNatClampNeg 3) = Int32.ofNat 104 by decide]
    by_cases h3 : v = 104
    · rw [if_neg (fun q => q ((b8 hv (by decide)).mpr h3)), if_pos h3]
    rw [if_pos (fun q => h3 ((b8 hv (by decide)).mp q)), if_neg h3, zlE, show (3 : Int32) + 1 = 4 by decide]
    rw [f_J1_indexOfChar_4cfef_1000205_L7, if_neg (show ¬ (5 : Int32) ≤ 4 by decide), if_pos (show ia_in (4 : Int32) 5 = true by decide), show zc_1000205 (Int32.toNatClampNeg 4) = Int32.ofNat 119 by decide]
    by_cases h4 : v = 119
    · rw [if_neg (fun q => q ((b8 hv (by decide)).mpr h4)), if_pos h4]
    rw [if_pos (fun q => h4 ((b8 hv (by decide)).mp q)), if_neg h4, zlE, show (4 : Int32) + 1 = 5 by decide]
    rw [f_J1_indexOfChar_4cfef_1000205_L7, if_pos (show (5 : Int32) ≤ 5 by decide)]
  rw [chr_t v hv]
  unfold f_J0_indexOf_0f7a4_1000105 f_J0_indexOf_7cf53_1000105 f_J1_indexOf_4cfef_1000205 f_J1_indexOfChar_4cfef_1000205
  rw [show f_J0_isLatin1_aae02_1000105 S = some (1, S) from rfl, zbE, if_neg (show ¬ (1 : Int32) = 0 by decide), show f_J0_length_8abf5_1000105 S = some (5, S) from rfl, zbE, c_enc hv, zbE, if_pos (show ¬ (1 : Int32) = 0 by decide), zlE, zlE, if_neg (show ¬ (0 : Int32) < 0 by decide), if_neg (show ¬ (5 : Int32) < 5 by decide), if_pos (show (0 : Int32) < 5 by decide), zlE, show zN = 4994 + 6 from rfl, lp 4994, zbE, zbE, zbE]
def px_5 (v : Int32) : Int32 := if 116 = v then 0 else if 107 = v then 1 else if 111 = v then 2 else if 104 = v then 3 else if 119 = v then 4 else -1
theorem r_pl_5 (v : Int32) (S : zS) : f_X12_placeOf_1000105 v S = some (px_5 v, S) := by
  have ln : f_J0_length_8abf5_1000105 S = some (5, S) := rfl
  have lp : ∀ z : Nat, f_X12_placeOf_1000105_L2 (fun (q11 : Int32) (S10 : zS) => some ((-1), S10)) v (z + 6) 0 S = some (px_5 v, S) := by
    intro z
    unfold px_5
    rw [f_X12_placeOf_1000105_L2, ln, zbE, if_neg (show ¬ (5 : Int32) ≤ 0 by decide), show f_J0_charAt_5068e_1000105 0 S = some (116, S) from rfl, zbE]
    by_cases h0 : (116 : Int32) = v
    · rw [if_neg (fun q => q h0), if_pos h0]
    rw [if_pos h0, if_neg h0, zlE, show (0 : Int32) + 1 = 1 by decide]
    rw [f_X12_placeOf_1000105_L2, ln, zbE, if_neg (show ¬ (5 : Int32) ≤ 1 by decide), show f_J0_charAt_5068e_1000105 1 S = some (107, S) from rfl, zbE]
    by_cases h1 : (107 : Int32) = v
    · rw [if_neg (fun q => q h1), if_pos h1]
    rw [if_pos h1, if_neg h1, zlE, show (1 : Int32) + 1 = 2 by decide]
    rw [f_X12_placeOf_1000105_L2, ln, zbE, if_neg (show ¬ (5 : Int32) ≤ 2 by decide), show f_J0_charAt_5068e_1000105 2 S = some (111, S) from rfl, zbE]
    by_cases h2 : (111 : Int32) = v
    · rw [if_neg (fun q => q h2), if_pos h2]
    rw [if_pos h2, if_neg h2, zlE, show (2 : Int32) + 1 = 3 by decide]
    rw [f_X12_placeOf_1000105_L2, ln, zbE, if_neg (show ¬ (5 : Int32) ≤ 3 by decide), show f_J0_charAt_5068e_1000105 3 S = some (104, S) from rfl, zbE]
    by_cases h3 : (104 : Int32) = v
    · rw [if_neg (fun q => q h3), if_pos h3]
    rw [if_pos h3, if_neg h3, zlE, show (3 : Int32) + 1 = 4 by decide]
    rw [f_X12_placeOf_1000105_L2, ln, zbE, if_neg (show ¬ (5 : Int32) ≤ 4 by decide), show f_J0_charAt_5068e_1000105 4 S = some (119, S) from rfl, zbE]
    by_cases h4 : (119 : Int32) = v
    · rw [if_neg (fun q => q h4), if_pos h4]
    rw [if_pos h4, if_neg h4, zlE, show (4 : Int32) + 1 = 5 by decide]
    rw [f_X12_placeOf_1000105_L2, ln, zbE, if_pos (show (5 : Int32) ≤ 5 by decide)]
  unfold f_X12_placeOf_1000105
  rw [show zN = 4994 + 6 from rfl]
  exact lp _
def ax_6 (v : Int32) : Int32 := if 121 = v then 1 else 0
theorem r_am_6 (v : Int32) (S : zS) : f_X12_isAmong_1000106 v S = some (ax_6 v, S) := by
  have ln : f_J0_length_8abf5_1000106 S = some (1, S) := rfl
  have lp : ∀ z : Nat, f_X12_isAmong_1000106_L2 (fun (q11 : Int32) (S10 : zS) => some (0, S10)) v (z + 2) 0 S = some (ax_6 v, S) := by
    intro z
    unfold ax_6
    rw [f_X12_isAmong_1000106_L2, ln, zbE, if_neg (show ¬ (1 : Int32) ≤ 0 by decide), show f_J0_charAt_5068e_1000106 0 S = some (121, S) from rfl, zbE]
    by_cases h0 : (121 : Int32) = v
    · rw [if_neg (fun q => q h0), if_pos h0]
    rw [if_pos h0, if_neg h0, zlE, show (0 : Int32) + 1 = 1 by decide]
    rw [f_X12_isAmong_1000106_L2, ln, zbE, if_pos (show (1 : Int32) ≤ 1 by decide)]
  unfold f_X12_isAmong_1000106
  rw [show zN = 4998 + 2 from rfl]
  exact lp _
end OS
