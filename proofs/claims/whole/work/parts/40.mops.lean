/-! Evenings. -/
section MW
variable {d M nj nh nt : Nat} {A B : zS}
def nxS (y : Int64) : Int64 := (y * 6364136223846793005) + 1442695040888963407
def drawV (y : Int64) (m : Int32) : Int32 := (((y.toUInt64 >>> ((33 : Int32).toInt64.toUInt64 &&& Int64.toUInt64 63)).toInt64) - ((y.toUInt64 >>> ((33 : Int32).toInt64.toUInt64 &&& Int64.toUInt64 63)).toInt64) / (m.toInt64) * (m.toInt64)).toInt32
theorem drawV_lt (y : Int64) {m : Nat} (h1 : 1 ≤ m) (h2 : m < 1000) : ∃ k, k < m ∧ drawV y (Int32.ofNat m) = Int32.ofNat k := by
  have e33 : ((33 : Int32).toInt64.toUInt64 &&& Int64.toUInt64 63) = 33 := by decide
  have hz : ∃ z : Nat, z < 2147483648 ∧ ((y.toUInt64 >>> (33 : UInt64)).toInt64).toInt = z := by
    have hn : (y.toUInt64 >>> (33 : UInt64)).toBitVec.toNat = y.toUInt64.toNat / 8589934592 := by
      show (y.toUInt64 >>> (33 : UInt64)).toNat = _
      rw [UInt64.toNat_shiftRight]
      show y.toUInt64.toNat >>> 33 = _
      rw [Nat.shiftRight_eq_div_pow]
    have hlt : y.toUInt64.toNat < 18446744073709551616 := y.toUInt64.toNat_lt
    refine ⟨y.toUInt64.toNat / 8589934592, by omega, ?_⟩
    show (y.toUInt64 >>> (33 : UInt64)).toBitVec.toInt = _
    rw [BitVec.toInt_eq_toNat_of_lt (by rw [hn]; omega), hn]
  obtain ⟨z, z1, z2⟩ := hz
  have em : ((Int32.ofNat m).toInt64).toInt = m := by rw [Int32.toInt_toInt64, ti_nat (by omega)]
  unfold drawV
  rw [e33]
  generalize (y.toUInt64 >>> (33 : UInt64)).toInt64 = Z at z2 ⊢
  generalize (Int32.ofNat m).toInt64 = D at em ⊢
  have hmin : Z ≠ Int64.minValue := fun e => by
    have : Int64.minValue.toInt = -9223372036854775808 := by decide
    rw [e, this] at z2
    omega
  have d1 : (Z / D).toInt = ((z / m : Nat) : Int) := by
    rw [Int64.toInt_div_of_ne_left _ _ hmin, z2, em, Int.tdiv_eq_ediv_of_nonneg (by omega)]
    exact (Int.natCast_ediv z m).symm
  have hle : z / m * m ≤ z := Nat.div_mul_le_self z m
  have d2 : (Z / D * D).toInt = ((z / m * m : Nat) : Int) := by
    rw [Int64.toInt_mul, d1, em, ← Int.natCast_mul]
    exact Int.bmod_eq_of_le_mul_two (by omega) (by omega)
  have hmod : z - z / m * m = z % m := by
    have := Nat.div_add_mod z m
    rw [Nat.mul_comm] at this
    omega
  have hml : z % m < m := Nat.mod_lt _ (by omega)
  have d3 : (Z - Z / D * D).toInt = ((z % m : Nat) : Int) := by
    rw [Int64.toInt_sub, d2, z2, ← hmod]
    rw [show ((z : Int) - ((z / m * m : Nat) : Int)) = ((z - z / m * m : Nat) : Int) by omega]
    exact Int.bmod_eq_of_le_mul_two (by omega) (by omega)
  refine ⟨z % m, hml, ti_ofn ?_⟩
  rw [Int64.toInt_toInt32, d3]
  exact Int.bmod_eq_of_le_mul_two (by omega) (by omega)
theorem zklE {β : Type} (x : Int64) (F : Int64 → Option β) : zkl (.long x) F = F x := Eq.trans rfl rfl
theorem c_draw {y : Int64} (hy : A.2.1 0 18 = .long y) {m : Nat} (h1 : 1 ≤ m) (h2 : m < 1000) : f_X11_draw (Int32.ofNat m) A = some (drawV (nxS y) (Int32.ofNat m), sK A 0 18 (.long (nxS y))) := by
  have q1 : (1 : Int32) ≤ Int32.ofNat m := (io_le (a := 1) (by omega) (by omega)).mpr h1
  have q2 : ¬ (Int32.ofNat m).toInt64 = 0 := fun q => by
    have := congrArg Int64.toInt q
    rw [Int32.toInt_toInt64, ti_nat (by omega)] at this
    have e0 : (0 : Int64).toInt = 0 := by decide
    omega
  unfold f_X11_draw
  rw [hy]
  show (if (1 : Int32) ≤ Int32.ofNat m then zkl ((sK A 0 18 (.long (nxS y))).2.1 0 18) _ else _) = _
  rw [if_pos q1, sK_g, if_pos ⟨rfl, rfl⟩]
  show (if (Int32.ofNat m).toInt64 = 0 then none else _) = _
  rw [if_neg q2]
  rfl
theorem r_draw {y : Int64} (hy : B.2.1 41 51 = .long y) {m : Nat} (h1 : 1 ≤ m) (h2 : m < 1000) : f_X12_draw (Int32.ofNat m) B = some (drawV (nxS y) (Int32.ofNat m), sK B 41 51 (.long (nxS y))) := by
  have q2 : ¬ (Int32.ofNat m).toInt64 = 0 := fun q => by
    have := congrArg Int64.toInt q
    rw [Int32.toInt_toInt64, ti_nat (by omega)] at this
    have e0 : (0 : Int64).toInt = 0 := by decide
    omega
  unfold f_X12_draw
  rw [hy, zklE, zlE, sK_g, if_pos ⟨rfl, rfl⟩, zklE, if_neg q2]
  rfl
theorem obsC_long (A : zS) (y : Int64) : obsC A (sK A 0 18 (.long y)) := ⟨fun _ _ => rfl, rfl, rfl, fun b k hb => by rw [sK_g, if_neg (fun q => by omega)], ⟨y, by rw [sK_g, if_pos ⟨rfl, rfl⟩]⟩⟩
theorem obsR_long (B : zS) (y : Int64) : obsR B (sK B 41 51 (.long y)) := ⟨fun _ _ => rfl, fun _ _ => rfl, fun _ _ => rfl, fun _ _ => rfl, rfl, ⟨y, by rw [sK_g, if_pos ⟨rfl, rfl⟩]⟩⟩
theorem evening_L {n : Nat} {sd : Int64} (hn : n ≤ 40) (hMx : M < 900000) (hnj : 0 < nj) : ∀ (k i f : Nat) (A B : zS) (x : Int64), i + k = n → k < f → InvD 0 (M + i) nj nh nt A B → A.2.1 0 18 = .long x → B.2.1 41 51 = .long x →
    ∃ r A' B', f_X11_evening_L31 (fun q53 _ S52 => some (q53, S52)) (Int32.ofNat n) sd f (Int32.ofNat i) (Int32.ofNat i) A = some (r, A') ∧ f_X12_evening_L34 (fun q44 S43 => some (q44, S43)) (Int32.ofNat n) sd f (Int32.ofNat i) B = some (r, B') ∧ Inv (M + 1000) A' B' := by
  intro k
  induction k with
  | zero =>
    intro i f A B x hi hf H ha hb
    obtain ⟨f, rfl⟩ : ∃ g, f = g + 1 := ⟨f - 1, by omega⟩
    have hi : i = n := by omega
    subst hi
    unfold f_X11_evening_L31 f_X12_evening_L34
    rw [if_pos (Int32.le_refl _), if_pos (Int32.le_refl _)]
    exact ⟨_, A, B, rfl, rfl, nj, nh, nt, H.mono (by omega)⟩
  | succ k ih =>
    intro i f A B x hi hf H ha hb
    obtain ⟨f, rfl⟩ : ∃ g, f = g + 1 := ⟨f - 1, by omega⟩
    have hlt : ¬ Int32.ofNat n ≤ Int32.ofNat i := fun q => by have := (io_le (by omega) (by omega)).mp q; omega
    unfold f_X11_evening_L31 f_X12_evening_L34
    rw [if_neg hlt, if_neg hlt]
    rcases shut2 H with ⟨tb, b1, b2, b3, b4, b5, b6, e2, -, e3⟩ | ⟨e2, -, e4⟩
    case inr =>
      rw [e2, e4 hnj, zbE, zbE, if_pos rfl, if_pos n10]
      exact ⟨_, A, B, rfl, rfl, nj, nh, nt, H.mono (by omega)⟩
    rw [e2, e3, zbE, zbE, if_neg n10, if_neg n00]
    obtain ⟨t1, t2, t3, t4, t5, t6, t7, t8, t9, t10, t11⟩ := H.told
    have n4 := t11.1
    have n6 := t11.2.1
    have n44 := t11.2.2.1
    have nh0 := t11.2.2.2.2.1 hnj
    -- the hand
    obtain ⟨h, hh, eh⟩ := drawV_lt (nxS x) (m := nh) (by omega) (by omega)
    rw [t2, t5, c_draw ha (by omega) (by omega), r_draw hb (by omega) (by omega), zbE, zbE, eh]
    have H1 := H.obs (obsC_long A (nxS x)) (obsR_long B (nxS x))
    have ha1 : (sK A 0 18 (.long (nxS x))).2.1 0 18 = .long (nxS x) := by rw [sK_g, if_pos ⟨rfl, rfl⟩]
    have hb1 : (sK B 41 51 (.long (nxS x))).2.1 41 51 = .long (nxS x) := by rw [sK_g, if_pos ⟨rfl, rfl⟩]
    have ta1 : (sK A 0 18 (.long (nxS x))).1 = A.1 := rfl
    have tb1 : (sK B 41 51 (.long (nxS x))).1 = B.1 := rfl
    generalize sK A 0 18 (.long (nxS x)) = A1 at H1 ha1 ta1 ⊢
    generalize sK B 41 51 (.long (nxS x)) = B1 at H1 hb1 tb1 ⊢
    -- the tool
    obtain ⟨t, ht, et⟩ := drawV_lt (nxS (nxS x)) (m := nt + 1) (by omega) (by omega)
    rw [ta1, tb1, t3, t6, io_sc nt, c_draw ha1 (by omega) (by omega), r_draw hb1 (by omega) (by omega), zbE, zbE, et]
    have H2 := H1.obs (obsC_long A1 (nxS (nxS x))) (obsR_long B1 (nxS (nxS x)))
    have ha2 : (sK A1 0 18 (.long (nxS (nxS x)))).2.1 0 18 = .long (nxS (nxS x)) := by rw [sK_g, if_pos ⟨rfl, rfl⟩]
    have hb2 : (sK B1 41 51 (.long (nxS (nxS x)))).2.1 41 51 = .long (nxS (nxS x)) := by rw [sK_g, if_pos ⟨rfl, rfl⟩]
    have ta2 : (sK A1 0 18 (.long (nxS (nxS x)))).1 = A.1 := ta1
    have tb2 : (sK B1 41 51 (.long (nxS (nxS x)))).1 = B.1 := tb1
    generalize sK A1 0 18 (.long (nxS (nxS x))) = A2 at H2 ha2 ta2 ⊢
    generalize sK B1 41 51 (.long (nxS (nxS x))) = B2 at H2 hb2 tb2 ⊢
    -- what slips
    have hsl := (t11.2.2.2.2.2.2.1 h hh).2.2.2.2
    unfold bd at hsl
    have es : B.1 48 (5 * h + 4) = Int32.ofNat (B.1 48 (5 * h + 4)).toInt.toNat := ti_ofn (by omega)
    generalize hs : (B.1 48 (5 * h + 4)).toInt.toNat = sl at es
    have hsl9 : sl ≤ 9 := by omega
    obtain ⟨s, hs2, ess⟩ := drawV_lt (nxS (nxS (nxS x))) (m := sl + 1) (by omega) (by omega)
    have T2 := H2.told
    have e94 : A2.1 13 (24 + (5 * h + 4)) = Int32.ofNat sl := by rw [ta2, t9 _ (by omega)]; exact es
    -- the tool's number
    have hto : ∃ o : Option Nat, (∀ k, o = some k → k < nt) ∧ (if ¬ Int32.ofNat t = Int32.ofNat nt then Int32.ofNat t else (-1 : Int32)) = toolV o ∧ (if ¬ toolV o = -1 then toolV o else (9 : Int32)) = (if ¬ Int32.ofNat t = Int32.ofNat nt then Int32.ofNat t else 9) := by
      by_cases htn : t = nt
      · subst htn
        refine ⟨none, fun k hk => (by cases hk), ?_, ?_⟩
        · rw [if_neg (fun q => q rfl)]; rfl
        · rw [if_neg (fun q => q rfl), if_neg (fun q => q rfl)]
      · have q : ¬ Int32.ofNat t = Int32.ofNat nt := fun q => htn ((io_eq (by omega) (by omega)).mp q)
        refine ⟨some t, fun k hk => (by cases hk; omega), ?_, ?_⟩
        · rw [if_pos q]; rfl
        · rw [if_pos q, if_pos (show ¬ toolV (some t) = -1 from io_ne1 (by omega))]; rfl
    obtain ⟨o, ho1, ho2, ho3⟩ := hto
    have cls : ∀ F : Int32 → Option (Int32 × zS), (if ¬ Int32.ofNat t = Int32.ofNat nt then F (Int32.ofNat t) else F (-1)) = F (toolV o) := by
      intro F
      rw [← ho2]
      split <;> rfl
    have cl9 : ∀ F : Int32 → Option (Int32 × zS), (if ¬ Int32.ofNat t = Int32.ofNat nt then F (Int32.ofNat t) else F 9) = F (if ¬ toolV o = -1 then toolV o else 9) := by
      intro F
      rw [ho3]
      split <;> rfl
    simp only [zlE]
    rw [ta2, t3]
    rw [cls (fun q21 => zb (f_X10_item 1 (Int32.ofNat h) 4 A2) fun r23 S22 => zb (f_X11_draw (r23 + 1) S22) fun r26 S25 => zb (f_X7_onTable 17 S25) fun r29 S28 => zb (f_X7_gripOn 17 (Int32.ofNat h) q21 r29 S28) fun r32 S31 => zb (f_X1_keep_17 S31) fun _ S35 => zb (f_X7_tryLid 17 (Int32.ofNat h) (if 0 < (r32 - r26) then (r32 - r26) else 0) S35) fun _ S38 => zb (f_X11_tryCode (Int32.ofNat h) q21 S38) fun r42 S41 => zb (f_X7_minute 17 S41) fun r45 S44 => zb (f_X1_note r42 r45 S44) fun _ S47 => f_X11_evening_L31 (fun q53 _ S52 => some (q53, S52)) (Int32.ofNat n) sd f (Int32.ofNat i + 1) (Int32.ofNat i + 1) S47)]
    rw [c_item1_4 (by omega), zbE, e94, io_sc sl, c_draw ha2 (by omega) (by omega), zbE, ess]
    have i30 : ia_in (5 * Int32.ofNat h + 4) 30 = true := by simp (disch := omega) only [ix_m5, ix_p4, io_in]
    have c30 : (5 * Int32.ofNat h + 4).toNatClampNeg = 5 * h + 4 := by simp (disch := omega) only [ix_m5, ix_p4, io_cl]
    rw [if_pos i30, c30, tb2, es, io_sc sl, r_draw hb2 (by omega) (by omega), zbE, ess]
    have H3 := H2.obs (obsC_long A2 (nxS (nxS (nxS x)))) (obsR_long B2 (nxS (nxS (nxS x))))
    have ha3 : (sK A2 0 18 (.long (nxS (nxS (nxS x))))).2.1 0 18 = .long (nxS (nxS (nxS x))) := by rw [sK_g, if_pos ⟨rfl, rfl⟩]
    have hb3 : (sK B2 41 51 (.long (nxS (nxS (nxS x))))).2.1 41 51 = .long (nxS (nxS (nxS x))) := by rw [sK_g, if_pos ⟨rfl, rfl⟩]
    have ta3 : (sK A2 0 18 (.long (nxS (nxS (nxS x))))).1 = A.1 := ta2
    have tb3 : (sK B2 41 51 (.long (nxS (nxS (nxS x))))).1 = B.1 := tb2
    generalize sK A2 0 18 (.long (nxS (nxS (nxS x)))) = A3 at H3 ha3 ta3 ⊢
    generalize sK B2 41 51 (.long (nxS (nxS (nxS x)))) = B3 at H3 hb3 tb3 ⊢
    -- the grip, put by, the try
    obtain ⟨W, w1, w2⟩ := H3.law
    have ho4 : ∀ k, o = some k → k < 4 := fun k hk => by have := ho1 k hk; omega
    obtain ⟨A4, ga, sa⟩ := c_gripOn w1 (o := 17) (h := h) (j := tb) (t := o) (by decide) (by decide) (by omega) b2 ho4
    have H4 := H3.obs (obsC_same sa H3.longC) H3.reflR
    obtain ⟨A5, B5, k1, k2, H5, fA, fB⟩ := keep_ok H4
    have b3' : A3.1 18 64 = Int32.ofNat tb := by rw [ta3]; exact b3
    have b35 : A5.1 18 64 = Int32.ofNat tb := by rw [fA.2 18 (by decide) (by decide), sa.2 18 (by decide) (by decide)]; exact b3'
    have b45 : B5.1 54 64 = Int32.ofNat tb := by rw [fB.2.1 54 (by decide) (by decide), tb3]; exact b4
    have w5 := w2.of (fB.2.2 35 (by decide)) (fB.2.1 43 (by decide) (by decide)) (fB.2.1 44 (by decide) (by decide))
    obtain ⟨B6, gb, sb⟩ := r_gripOf w5 (w := 54) (h := h) (j := tb) (t := o) (by omega) b2 ho4 (gBd_row H5.told.2.2.2.2.2.2.2.2.2.2 (H5.row.2.tr H5.row.1) b45 b2 (by omega) ho1)
    have gq := grip_eq (W := W) H3.told H3.row.1 (h := h) (j := tb) (t := o) (by omega) (tbn H3.told.2.2.2.2.2.2.2.2.2.2 H3.row.2 b3' b2 (by omega)) ho1
    rw [← fB.2.1 46 (by decide) (by decide), ← fB.2.1 48 (by decide) (by decide), ← fB.2.1 50 (by decide) (by decide), ← fB.2.1 54 (by decide) (by decide)] at gq
    rw [c_onTable (o := 17) b3', zbE, ga, zbE, k1, zbE, gq]
    have hg := m0_nn (gripM W (B5.1 46) (B5.1 48) (B5.1 50) (B5.1 54) h o tb - Int32.ofNat s)
    have tr := c_tryLid (o := 17) (S := A5) (by decide) b35 b2 (h := h) (by omega) (m0 (gripM W (B5.1 46) (B5.1 48) (B5.1 50) (B5.1 54) h o tb - Int32.ofNat s))
    rw [show f_X7_tryLid 17 (Int32.ofNat h) (if 0 < gripM W (B5.1 46) (B5.1 48) (B5.1 50) (B5.1 54) h o tb - Int32.ofNat s then gripM W (B5.1 46) (B5.1 48) (B5.1 50) (B5.1 54) h o tb - Int32.ofNat s else 0) A5 = _ from tr, zbE]
    have tur := r_turns (w := 54) (by decide) b45 b2 (h := h) (by omega) (side := B5.1 46 (6 * tb + 3)) (less := Int32.ofNat s) gb (sb.1 54 (by decide) (by decide)) (sb.1 48 (by decide) (by decide)) (sb.1 46 (by decide) (by decide))
    rw [if_pos rfl] at tur
    have i24 : ia_in (6 * Int32.ofNat tb + 3) 24 = true := by simp (disch := omega) only [ix_m6, ix_p3, io_in]
    have c24 : (6 * Int32.ofNat tb + 3).toNatClampNeg = 6 * tb + 3 := by simp (disch := omega) only [ix_m6, ix_p3, io_cl]
    have B526 : B5.1 41 26 = Int32.ofNat nt := by rw [fB.2.2 26 (by decide), tb3]; exact t6
    have B626 : B6.1 41 26 = Int32.ofNat nt := by rw [sb.2.1 26 (by omega) (by decide)]; exact B526
    rw [k2, zbE, b45, c24, if_pos i24, if_pos i24, B526]
    have z := try_row H5.told H5.row (by omega) b2 hh hg
    obtain ⟨A7, B7, m1, m2, H7, y1, y2, y3, y4, y5, y6⟩ := act_end H5 (sameC.rfl' A5) sb (by omega) z (100 + 10 * Int32.ofNat h + (if ¬ toolV o = -1 then toolV o else 9))
    rw [cls (fun q31 => zb (f_X12_turns 54 (Int32.ofNat h) q31 (B5.1 46 (6 * tb + 3)) (Int32.ofNat s) B5) fun _ S33 => if ¬ Int32.ofNat t = (S33.1 41 26) then zb (f_X12_writes ((100 + (10 * Int32.ofNat h)) + Int32.ofNat t) S33) fun _ S39 => f_X12_evening_L34 (fun q44 S43 => some (q44, S43)) (Int32.ofNat n) sd f (Int32.ofNat i + 1) S39 else zb (f_X12_writes ((100 + (10 * Int32.ofNat h)) + 9) S33) fun _ S39 => f_X12_evening_L34 (fun q44 S43 => some (q44, S43)) (Int32.ofNat n) sd f (Int32.ofNat i + 1) S39)]
    rw [tur, zbE, sR_ne _ (b := 41) (a := 54) _ (by decide), B626, cl9 (fun q38 => zb (f_X12_writes ((100 + (10 * Int32.ofNat h)) + q38) (sR B6 54 (tryR (B5.1 48) tb h (m0 (gripM W (B5.1 46) (B5.1 48) (B5.1 50) (B5.1 54) h o tb - Int32.ofNat s)) (B5.1 54)))) fun _ S39 => f_X12_evening_L34 (fun q44 S43 => some (q44, S43)) (Int32.ofNat n) sd f (Int32.ofNat i + 1) S39)]
    rw [tryCode_t _ o ho4, zbE, c_minute, zbE, sR_at, m1, zbE, m2, zbE, io_sc i]
    refine ih (i + 1) f A7 B7 (nxS (nxS (nxS x))) (by omega) (by omega) (H7.mono (by omega)) ?_ ?_
    · rw [y3, fA.1, sa.1]; exact ha3
    · rw [y6, fB.1]; exact hb3
theorem op_evening (H : InvD 0 M nj nh nt A B) (hM : M < 900000) (v : Int32) (sd : Int64) : Sim M (f_X11_evening v sd A) (f_X12_evening v sd B) := by
  have H0 := H.thr 0
  unfold f_X11_evening f_X12_evening
  simp only [zlE]
  rw [if_rng]
  generalize sV B 41 0 0 = B0 at H0 ⊢
  have e1 : (1 : Int64).toInt = 1 := by decide
  have e60 : (40 : Int64).toInt = 40 := by decide
  have f60 : (40 : Int32).toInt = 40 := by decide
  simp only [r_isIn, e1, e60, zbE, ti_1, f60]
  by_cases hv : 1 ≤ v.toInt ∧ v.toInt ≤ 40
  · simp only [if_pos hv]
    rcases shut2 H0 with ⟨tb, b1, b2, b3, b4, b5, b6, e2, e3, -⟩ | ⟨e2, e3, -⟩
    · rw [e2, e3, zbE, zbE, if_pos n10, if_neg n10, if_pos n10]
      have ev : v = Int32.ofNat v.toInt.toNat := ti_ofn (by omega)
      have hn : v.toInt.toNat ≤ 40 := by omega
      generalize v.toInt.toNat = n at ev hn
      subst ev
      have H1 := H0.obs (obsC_long A sd) (obsR_long B0 sd)
      obtain ⟨r, A', B', f1, f2, f3⟩ := evening_L (sd := sd) hn hM (by omega) n 0 zN _ _ sd (by omega) (by unfold zN; omega) H1 (by rw [sK_g, if_pos ⟨rfl, rfl⟩]) (by rw [sK_g, if_pos ⟨rfl, rfl⟩])
      exact ⟨r, A', B', f1, f2, f3⟩
    · rw [e2, e3, zbE, zbE, if_neg n00, if_pos rfl]
      exact Sim.no H0 _
  · simp only [if_neg hv]
    rcases shut2 H0 with ⟨tb, b1, b2, b3, b4, b5, b6, e2, e3, -⟩ | ⟨e2, e3, -⟩
    · rw [e3, zbE, if_neg n10, if_neg (fun q => q trivial)]
      exact Sim.no H0 _
    · rw [e3, zbE, if_pos rfl]
      exact Sim.no H0 _
end MW
