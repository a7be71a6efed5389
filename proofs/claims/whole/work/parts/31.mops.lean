/-! Tries, shutting, undoing, images, the log. -/
section MN
variable {d M nj nh nt : Nat} {A B : zS}
theorem tbn {M' : Nat} {jT hT tT r : Nat → Int32} (T : ToldB nj nh nt jT hT tT) (R : RowOk jT nj M' r) {tb : Nat} (h64 : r 64 = Int32.ofNat tb) (hb : tb < 4) (hn : 0 < nh) : tb < nj := by
  obtain ⟨b, b1, b2, b3⟩ := R.1
  have e : b = tb := (io_eq (by omega) (by omega)).mp (b3.symm.trans h64)
  subst e
  rcases b2 with b2 | b2
  · have := (T.2.2.2.1 b2).1
    omega
  · exact b2
theorem grip_eq {W : zLw} {r q : Nat → Int32} (T : ITold nj nh nt A B) (R : RelRow r q) {h j : Nat} {t : Option Nat} (hh : h < nh) (hj : j < nj) (ht : ∀ k, t = some k → k < nt) : gripM W (A.1 13) (fun k => A.1 13 (24 + k)) (fun k => A.1 13 (54 + k)) r h t j = gripM W (B.1 46) (B.1 48) (B.1 50) q h t j := by
  obtain ⟨t1, t2, t3, t4, t5, t6, t7, t8, t9, t10, t11⟩ := T
  have n4 := t11.1
  have n6 := t11.2.1
  have ea : addsV (fun k => A.1 13 (54 + k)) t = addsV (B.1 50) t := by
    cases t with
    | none => rfl
    | some k => exact t10 _ (by have := ht k rfl; omega)
  unfold gripM
  dsimp only
  rw [R.pl (k := 28 + 2 * h) (by omega), R.pl (k := 28 + 2 * h + 1) (by omega), R.pl (k := 7 * j + 2) (by omega), ea, t9 (5 * h + 1) (by omega), t8 (6 * j + 4) (by omega)]
theorem m0_id {g : Int32} (h : 0 ≤ g.toInt) : m0 (g - 0) = g := by
  apply ti_inj
  have h2 := g.toInt_lt
  have e : (g - 0).toInt = g.toInt := by rw [ti_sub (by rw [ti_0]; omega), ti_0]; omega
  rw [ti_m0, e]
  split <;> omega
theorem m0_nn (g : Int32) : 0 ≤ (m0 g).toInt := by
  rw [ti_m0]
  split <;> omega
theorem loC_in {tb h : Nat} (hb : tb < 4) (hh : h < 6) : 40 ≤ loC tb h ∧ loC tb h < 64 := by unfold loC; omega
theorem RowOk.tr {jT : Nat → Int32} {M' : Nat} {r q : Nat → Int32} (H : RowOk jT nj M' r) (R : RelRow r q) : RowOk jT nj M' q := by
  obtain ⟨⟨tb, b1, b2, b3⟩, c1, c2, c3⟩ := H
  refine ⟨⟨tb, b1, b2, ?_⟩, fun j hj => ?_, fun h hh => ?_, ?_⟩
  · rw [← R.pl (by omega)]; exact b3
  · rw [← R.pl (k := 7 * j) (by omega), ← R.pl (k := 7 * j + 1) (by omega), ← R.pl (k := 7 * j + 2) (by omega), ← R.pl (k := 7 * j + 3) (by omega), ← R.pl (k := 7 * j + 5) (by omega), ← R.pl (k := 7 * j + 6) (by omega)]; exact c1 j hj
  · rw [← R.pl (k := 28 + 2 * h) (by omega), ← R.pl (k := 28 + 2 * h + 1) (by omega)]; exact c2 h hh
  · rw [← R.pl (by omega)]; exact c3
/-- a try on both sides -/
theorem try_row {M' : Nat} {r q : Nat → Int32} (T : ITold nj nh nt A B) (R : IRow (B.1 46) nj M' r q) (hM : M' < 1000000) {tb h : Nat} (hb : tb < 4) (hh : h < nh) {g : Int32} (hg : 0 ≤ g.toInt) :
    IRow (B.1 46) nj (M' + 1) (tryM loC (fun k => A.1 13 (24 + k)) tb h g r) (tryR (B.1 48) tb h g q) := by
  obtain ⟨t1, t2, t3, t4, t5, t6, t7, t8, t9, t10, t11⟩ := T
  have h6 := t11.2.1
  have e3 : (fun k => A.1 13 (24 + k)) (5 * h + 3) = B.1 48 (5 * h + 3) := t9 _ (by omega)
  have ht : 0 ≤ (B.1 48 (5 * h + 3)).toInt := (t11.2.2.2.2.2.2.1 h hh).2.2.2.1.1
  rw [tryR_eq (R.2.tr R.1) hb hg, try_cg e3]
  exact ⟨R.1.tri hb (by omega) g, R.2.tri hM hb (by omega) (loC_in hb (by omega)) ht hg⟩
theorem wrong_row {M' : Nat} {r q : Nat → Int32} (T : ITold nj nh nt A B) (R : IRow (B.1 46) nj M' r q) (hM : M' < 1000000) {tb h : Nat} (hb : tb < 4) (hh : h < nh) :
    IRow (B.1 46) nj (M' + 1) (wrongM (fun k => A.1 13 (24 + k)) tb h r) (wrongM (B.1 48) tb h q) := by
  obtain ⟨t1, t2, t3, t4, t5, t6, t7, t8, t9, t10, t11⟩ := T
  have h6 := t11.2.1
  have e3 : (fun k => A.1 13 (24 + k)) (5 * h + 3) = B.1 48 (5 * h + 3) := t9 _ (by omega)
  have ht : 0 ≤ (B.1 48 (5 * h + 3)).toInt := (t11.2.2.2.2.2.2.1 h hh).2.2.2.1.1
  have ec : wrongM (fun k => A.1 13 (24 + k)) tb h r = wrongM (B.1 48) tb h r := by
    unfold wrongM
    rw [tire_cg e3]
  rw [ec]
  exact ⟨R.1.wrong hb (by omega), R.2.wrong hM hb (by omega) ht⟩
theorem try_64 {lo : Nat → Nat → Nat} {hT : Nat → Int32} {tb h : Nat} (hb : tb < 4) (hh : h < 6) (hlo : lo tb h < 64) (g : Int32) (r : Nat → Int32) : tryM lo hT tb h g r 64 = r 64 := by
  unfold tryM tireM looseM
  split <;> simp (disch := omega) only [um_ne, ru_ne]
theorem wrong_64 {hT : Nat → Int32} {tb h : Nat} (hb : tb < 4) (hh : h < 6) (r : Nat → Int32) : wrongM hT tb h r 64 = r 64 := by
  unfold wrongM tireM
  simp (disch := omega) only [um_ne, ru_ne]
theorem tryCode_t (h : Int32) (t : Option Nat) (ht : ∀ k, t = some k → k < 4) (S : zS) : f_X11_tryCode h (toolV t) S = some (100 + 10 * h + (if ¬ toolV t = -1 then toolV t else 9), S) := by
  unfold f_X11_tryCode
  split <;> rfl
theorem n10 : ¬ (1 : Int32) = 0 := by decide
theorem n00 : ¬ ¬ (0 : Int32) = 0 := by decide
theorem op_turn (H : InvD 0 M nj nh nt A B) (hM : M < 900000) (v1 v2 v3 : Int32) : Sim M (f_X11_turn v1 v2 v3 A) (f_X12_turn v1 v2 v3 B) := by
  have H0 := H.thr 0
  unfold f_X11_turn f_X12_turn
  rw [zlE]
  generalize sV B 41 0 0 = B0 at H0 ⊢
  obtain ⟨t1, t2, t3, t4, t5, t6, t7, t8, t9, t10, t11⟩ := H0.told
  have n4 := t11.1
  have n6 := t11.2.1
  have n44 := t11.2.2.1
  have e0 : (0 : Int64).toInt = 0 := by decide
  have e1 : (1 : Int64).toInt = 1 := by decide
  rcases isHand2 t2 t5 (by omega) v1 with ⟨h, hh, rfl, e2, e3⟩ | ⟨e2, e3⟩
  case inr =>
    rw [e2, e3, zbE, zbE, if_pos rfl, if_pos rfl]
    exact Sim.no H0 _
  rw [e2, e3, zbE, zbE, if_neg (by decide), if_neg (by decide)]
  rcases isTool2 t3 t6 (by omega) v2 with ⟨t, ht, rfl, e4, e5⟩ | ⟨e4, e5⟩
  case inr =>
    rw [e4, e5, zbE, zbE, if_pos rfl, if_pos rfl]
    exact Sim.no H0 _
  rw [e4, e5, zbE, zbE, if_neg n10, if_neg n10, if_rng, r_isIn, zbE, ti_0, ti_1, e0, e1]
  by_cases hv : 0 ≤ v3.toInt ∧ v3.toInt ≤ 1
  case neg =>
    rw [if_neg hv, if_neg hv, if_pos rfl]
    exact Sim.no H0 _
  rw [if_pos hv, if_pos hv, if_neg (by decide)]
  have hnj : 0 < nj := by
    by_cases hz : nj = 0
    · have := t11.2.2.2.1 hz; omega
    · omega
  rcases shut2 H0 with ⟨tb, b1, b2, b3, b4, b5, b6, e6, -, e7⟩ | ⟨e6, -, e7⟩
  case inr =>
    rw [e6, e7 hnj, zbE, zbE, if_neg (by decide), if_neg (by decide)]
    exact Sim.no H0 _
  rw [e6, e7, zbE, zbE, if_pos (by decide), if_pos rfl]
  obtain ⟨A1, B1, k1, k2, H1, fA, fB⟩ := keep_ok H0
  have b3' : A1.1 18 64 = Int32.ofNat tb := by rw [fA.2 18 (by decide) (by decide)]; exact b3
  have b4' : B1.1 54 64 = Int32.ofNat tb := by rw [fB.2.1 54 (by decide) (by decide)]; exact b4
  obtain ⟨W, w1, w2⟩ := H1.law
  have T := H1.told
  obtain ⟨s1, s2, s3, s4, s5, s6, s7, s8, s9, s10, s11⟩ := H1.told
  obtain ⟨A2, ga, sa⟩ := c_gripOn w1 (o := 17) (h := h) (j := tb) (t := t) (by decide) (by decide) (by omega) b2 (fun k hk => by have := ht k hk; omega)
  obtain ⟨B2, gb, sb⟩ := r_gripOf w2 (w := 54) (h := h) (j := tb) (t := t) (by omega) (by omega) (fun k hk => by have := ht k hk; omega) (gBd_of s11 (H1.row.2.tr H1.row.1) hh b1 ht)
  have gq := grip_eq (W := W) T H1.row.1 (h := h) (j := tb) (t := t) (by omega) (by omega) (fun k hk => by have := ht k hk; omega)
  have hg0 : 0 ≤ (gripM W (B1.1 46) (B1.1 48) (B1.1 50) (B1.1 54) h t tb).toInt := gripM_bd.1
  have tur := r_turns (w := 54) (by decide) b4' b2 (h := h) (by omega) (side := v3) (less := 0) gb (sb.1 54 (by decide) (by decide)) (sb.1 48 (by decide) (by decide)) (sb.1 46 (by decide) (by decide))
  rw [m0_id hg0] at tur
  have el : A1.1 13 (6 * tb + 3) = B1.1 46 (6 * tb + 3) := s8 _ (by omega)
  have B46 : B2.1 46 = B1.1 46 := sb.1 46 (by decide) (by decide)
  rw [tryCode_t _ t (fun k hk => by have := ht k hk; omega), zbE, k1, zbE, k2, zbE, c_onTable (o := 17) b3', zbE, c_item0_3 b2, zbE, tur, zbE]
  have fin : ∀ (c c' : Int32) (A' : zS) (r q : Nat → Int32), c = c' → sameC A1 A' → IRow (B1.1 46) nj (M + 1) r q → r 64 = Int32.ofNat tb → Sim M (zb (f_X7_minute 17 (sR A' 18 r)) fun r32 S31 => zb (f_X1_note c r32 S31) fun _ S34 => zb (f_X7_lid 17 5 S34) fun r38 S37 => some (r38, S37)) (zb (f_X12_writes c' (sR B2 54 q)) fun _ S31 => if ia_in ((7 * (S31.1 54 64)) + 5) 66 = true then some (S31.1 54 ((7 * (S31.1 54 64)) + 5).toNatClampNeg, S31) else none) := by
    intro c c' A' r q hc hs hr h64
    subst hc
    obtain ⟨A3, B3, n1, n2, H3, g1, g2, -, -⟩ := act_end H1 hs sb (by omega) hr c
    rw [c_minute, zbE, sR_at, n1, zbE, n2, zbE]
    have w64 : A3.1 18 64 = Int32.ofNat tb := by rw [g1]; exact h64
    have w64' : B3.1 54 64 = Int32.ofNat tb := by rw [← H3.row.1.pl (by omega)]; exact w64
    rw [c_lid (x := 5) (c := 5) w64 b2 (by omega) rfl, zbE, w64']
    simp (disch := omega) only [ix_m7, ix_p5, io_in, io_cl, if_true]
    exact sim_fin H3 (by omega) (H3.row.1.pl (by omega))
  have q64 : ∀ q : Nat → Int32, (sR B2 54 q).1 54 = q := fun q => sR_at _ _ _
  have q46 : ∀ q : Nat → Int32, (sR B2 54 q).1 46 = B1.1 46 := fun q => (sR_ne _ _ (by decide)).trans B46
  simp only [zlE]
  rw [q64, q46]
  have ec : ∀ x : Int32, (if ¬ toolV t = -1 then (zb (f_X12_writes (100 + 10 * Int32.ofNat h + toolV t + x) (sR B2 54 (if v3 = B1.1 46 (6 * tb + 3) then tryR (B1.1 48) tb h (gripM W (B1.1 46) (B1.1 48) (B1.1 50) (B1.1 54) h t tb) (B1.1 54) else wrongM (B1.1 48) tb h (B1.1 54)))) fun _ S31 => if ia_in ((7 * (S31.1 54 64)) + 5) 66 = true then some (S31.1 54 ((7 * (S31.1 54 64)) + 5).toNatClampNeg, S31) else none) else (zb (f_X12_writes (100 + 10 * Int32.ofNat h + 9 + x) (sR B2 54 (if v3 = B1.1 46 (6 * tb + 3) then tryR (B1.1 48) tb h (gripM W (B1.1 46) (B1.1 48) (B1.1 50) (B1.1 54) h t tb) (B1.1 54) else wrongM (B1.1 48) tb h (B1.1 54)))) fun _ S31 => if ia_in ((7 * (S31.1 54 64)) + 5) 66 = true then some (S31.1 54 ((7 * (S31.1 54 64)) + 5).toNatClampNeg, S31) else none)) = (zb (f_X12_writes (100 + 10 * Int32.ofNat h + (if ¬ toolV t = -1 then toolV t else 9) + x) (sR B2 54 (if v3 = B1.1 46 (6 * tb + 3) then tryR (B1.1 48) tb h (gripM W (B1.1 46) (B1.1 48) (B1.1 50) (B1.1 54) h t tb) (B1.1 54) else wrongM (B1.1 48) tb h (B1.1 54)))) fun _ S31 => if ia_in ((7 * (S31.1 54 64)) + 5) 66 = true then some (S31.1 54 ((7 * (S31.1 54 64)) + 5).toNatClampNeg, S31) else none) := by
    intro x
    split <;> rfl
  by_cases hs : v3 = B1.1 46 (6 * tb + 3)
  · have h64 : (if v3 = B1.1 46 (6 * tb + 3) then tryR (B1.1 48) tb h (gripM W (B1.1 46) (B1.1 48) (B1.1 50) (B1.1 54) h t tb) (B1.1 54) else wrongM (B1.1 48) tb h (B1.1 54)) 64 = Int32.ofNat tb := by
      rw [if_pos hs, tryR_eq (H1.row.2.tr H1.row.1) b2 hg0, try_64 b2 (by omega) (by unfold loR; omega)]
      exact b4'
    rw [h64]
    simp (disch := omega) only [ix_m6, ix_p3, io_in, io_cl, if_true]
    have hn : ¬ ¬ v3 = B1.1 46 (6 * tb + 3) := fun q => q hs
    rw [el, if_neg hn, if_neg hn, if_neg hn, ec 0, if_pos hs, c_onTable (o := 17) b3', zbE, ga, zbE, gq]
    have b3'' : A2.1 18 64 = Int32.ofNat tb := by rw [sa.2 18 (by decide) (by decide)]; exact b3'
    rw [c_tryLid (o := 17) (by decide) b3'' b2 (h := h) (by omega), zbE, sa.2 13 (by decide) (by decide), sa.2 18 (by decide) (by decide)]
    exact fin _ _ A2 _ _ (Int32.add_zero _).symm sa (try_row T H1.row (by omega) b2 hh hg0) (by rw [try_64 b2 (by omega) (loC_in b2 (by omega)).2]; exact b3')
  · have h64 : (if v3 = B1.1 46 (6 * tb + 3) then tryR (B1.1 48) tb h (gripM W (B1.1 46) (B1.1 48) (B1.1 50) (B1.1 54) h t tb) (B1.1 54) else wrongM (B1.1 48) tb h (B1.1 54)) 64 = Int32.ofNat tb := by
      rw [if_neg hs, wrong_64 b2 (by omega)]
      exact b4'
    rw [h64]
    simp (disch := omega) only [ix_m6, ix_p3, io_in, io_cl, if_true]
    rw [el, if_pos hs, if_pos hs, if_pos hs, ec 1000, if_neg hs, c_wrong (o := 17) (by decide) b3' b2 (h := h) (by omega), zbE]
    exact fin _ _ A1 _ _ rfl (sameC.rfl' _) (wrong_row T H1.row (by omega) b2 hh) (by rw [wrong_64 b2 (by omega)]; exact b3')
end MN
