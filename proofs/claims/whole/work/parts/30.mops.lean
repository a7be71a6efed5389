/-! More acts. -/
section ML
variable {d M nj nh nt : Nat} {A B : zS}
theorem sim_fin {r r' : Int32} {A' B' : zS} {M' : Nat} (H : InvD 0 M' nj nh nt A' B') (h : M' ≤ M + 1000) (e : r = r') : Sim M (some (r, A')) (some (r', B')) := ⟨r, A', B', rfl, by rw [e], nj, nh, nt, H.mono h⟩
theorem act_hold {tb : Nat} (hb : tb < 4) {M' : Nat} {A3 B3 : zS} (H3 : InvD 0 M' nj nh nt A3 B3) (h : M' ≤ M + 1000) (w64 : A3.1 18 64 = Int32.ofNat tb) :
    Sim M (zb (f_X7_onTable 17 A3) fun r26 S25 => zb (f_X7_hold 17 r26 S25) fun r29 S28 => some (r29, S28)) (zb (f_X12_holdOf 54 (B3.1 54 64) B3) fun r23 S22 => some (r23, S22)) := by
  have w64' : B3.1 54 64 = Int32.ofNat tb := by rw [← H3.row.1.pl (by omega)]; exact w64
  rw [c_onTable (o := 17) w64, zbE, c_hold hb, zbE, w64', r_holdOf hb, zbE]
  exact sim_fin H3 h (H3.row.1.hold hb)
theorem InvD.tab (H : InvD d M nj nh nt A B) : ∃ tb, tb < 4 ∧ (nj = 0 ∨ tb < nj) ∧ A.1 18 64 = Int32.ofNat tb ∧ B.1 54 64 = Int32.ofNat tb := by
  obtain ⟨tb, b1, b2, b3⟩ := H.row.2.1
  exact ⟨tb, b1, b2, b3, by rw [← H.row.1.pl (by omega)]; exact b3⟩
theorem tap_64 {tb : Nat} (hb : tb < 4) (r : Nat → Int32) : tapM tb r 64 = r 64 ∧ knockM tb r 64 = r 64 ∧ holeM tb r 64 = r 64 ∧ chillM tb r 64 = r 64 := by
  unfold tapM knockM holeM chillM
  simp (disch := omega) only [um_ne, ru_ne, true_and, and_self]
theorem op_work (H : InvD 0 M nj nh nt A B) (hM : M < 900000) (v : Int32) : Sim M (f_X11_work v A) (f_X12_work v B) := by
  have H0 := H.thr 0
  unfold f_X11_work f_X12_work
  rw [zlE, if_rng]
  generalize sV B 41 0 0 = B0 at H0 ⊢
  have e1 : (0 : Int64).toInt = 0 := by decide
  have e60 : (3 : Int64).toInt = 3 := by decide
  have f60 : (3 : Int32).toInt = 3 := by decide
  simp only [r_isIn, e1, e60, zbE, ti_0, f60]
  by_cases hv : 0 ≤ v.toInt ∧ v.toInt ≤ 3
  · simp only [if_pos hv]
    rcases shut2 H0 with ⟨tb, b1, b2, b3, b4, b5, b6, e2, e3, -⟩ | ⟨e2, e3, -⟩
    · rw [e2, e3, zbE, zbE, if_pos (by decide), if_neg (by decide), if_pos (by decide)]
      obtain ⟨A1, B1, k1, k2, H1, fA, fB⟩ := keep_ok H0
      have b3' : A1.1 18 64 = Int32.ofNat tb := by rw [fA.2 18 (by decide) (by decide)]; exact b3
      have b4' : B1.1 54 64 = Int32.ofNat tb := by rw [fB.2.1 54 (by decide) (by decide)]; exact b4
      rw [k1, zbE, k2, zbE]
      obtain ⟨R1, R2⟩ := H1.row
      have fin : ∀ (c : Int32) (r q : Nat → Int32), IRow (B1.1 46) nj (M + 1) r q → r 64 = Int32.ofNat tb → Sim M (zb (f_X7_minute 17 (sR A1 18 r)) fun r20 S19 => zb (f_X1_note c r20 S19) fun _ S22 => zb (f_X7_onTable 17 S22) fun r26 S25 => zb (f_X7_hold 17 r26 S25) fun r29 S28 => some (r29, S28)) (zb (f_X12_writes c (sR B1 54 q)) fun _ S19 => zb (f_X12_holdOf 54 (S19.1 54 64) S19) fun r23 S22 => some (r23, S22)) := by
        intro c r q hr h64
        obtain ⟨A3, B3, n1, n2, H3, g1, g2, -, -⟩ := act_end H1 (sameC.rfl' _) (sameR.rfl' _) (by omega) hr c
        rw [c_minute, zbE, sR_at, n1, zbE, n2, zbE]
        exact act_hold b2 H3 (by omega) (by rw [g1]; exact h64)
      have hcase : v = 0 ∨ v = 1 ∨ v = 2 ∨ v = 3 := by
        have : v.toInt = 0 ∨ v.toInt = 1 ∨ v.toInt = 2 ∨ v.toInt = 3 := by omega
        rcases this with h | h | h | h
        · exact Or.inl (ti_inj h)
        · exact Or.inr (Or.inl (ti_inj h))
        · exact Or.inr (Or.inr (Or.inl (ti_inj h)))
        · exact Or.inr (Or.inr (Or.inr (ti_inj h)))
      have b64 := tap_64 b2 (A1.1 18)
      simp only [zlE]
      rcases hcase with rfl | rfl | rfl | rfl
      · have f := fin 0 _ _ ⟨R1.tap b2, R2.tap (by omega) b2⟩ (b64.1.trans b3')
        have ea : f_X7_act 17 0 A1 = some ((), sR A1 18 (tapM tb (A1.1 18))) := by
          unfold f_X7_act
          rw [if_pos (by decide), if_pos (by decide), if_pos (by decide), if_pos (by decide), c_tap (o := 17) (by decide) b3' b2, zbE]
        rw [if_pos (by decide), ea, zbE, r_tap (w := 54) (by decide) b4' b2, zbE, if_pos (by decide), if_pos (by decide)]
        exact f
      · have f := fin 1 _ _ ⟨R1.knock b2, R2.knock (by omega) b2⟩ (b64.2.1.trans b3')
        have ea : f_X7_act 17 1 A1 = some ((), sR A1 18 (knockM tb (A1.1 18))) := by
          unfold f_X7_act
          rw [if_pos (by decide), if_pos (by decide), if_pos (by decide), if_pos (by decide), c_knock (o := 17) (by decide) b3' b2, zbE]
        rw [if_pos (by decide), ea, zbE, r_knock (w := 54) (by decide) b4' b2, zbE, if_pos (by decide), if_pos (by decide)]
        exact f
      · have f := fin 2 _ _ ⟨R1.hole b2, R2.hole (by omega) b2⟩ (b64.2.2.1.trans b3')
        have ea : f_X7_act 17 2 A1 = some ((), sR A1 18 (holeM tb (A1.1 18))) := by
          unfold f_X7_act
          rw [if_pos (by decide), if_pos (by decide), if_pos (by decide), if_pos (by decide), c_hole (o := 17) (by decide) b3' b2, zbE]
        rw [if_pos (by decide), ea, zbE, r_hole (w := 54) (by decide) b4' b2, zbE, if_pos (by decide), if_pos (by decide)]
        exact f
      · have f := fin 7 _ _ ⟨R1.chill b2, R2.chill (by omega) b2⟩ (b64.2.2.2.trans b3')
        rw [if_neg (by decide), c_chill (o := 17) (by decide) b3' b2, zbE, r_chill (w := 54) (by decide) b4' b2, zbE, if_neg (by decide), if_neg (by decide)]
        exact f
    · rw [e2, e3, zbE, zbE, if_neg (by decide), if_pos rfl]
      exact Sim.no H0 _
  · simp only [if_neg hv]
    rcases shut2 H0 with ⟨tb, b1, b2, b3, b4, b5, b6, e2, e3, -⟩ | ⟨e2, e3, -⟩
    · rw [e3, zbE, if_neg (by decide), if_neg (by decide)]
      exact Sim.no H0 _
    · rw [e3, zbE, if_pos rfl]
      exact Sim.no H0 _
theorem c_actDry {h o : Nat} (ho : 17 ≤ o) (hh : h < 6) (S : zS) : f_X7_act o (Int32.ofNat (10 + h)) S = some ((), sR S (o + 1) (dryM h (S.1 (o + 1)))) := by
  have q1 : Int32.ofNat (10 + h) < 100 := (io_lt (b := 100) (by omega) (by omega)).mpr (by omega)
  have q2 : ¬ Int32.ofNat (10 + h) < 10 := fun q => by have := (io_lt (b := 10) (by omega) (by omega)).mp q; omega
  have q3 : Int32.ofNat (10 + h) - 10 = Int32.ofNat h := by
    have := Int32.ofNat_sub (10 + h) 10 (by omega)
    rw [show 10 + h - 10 = h by omega] at this
    exact this.symm
  unfold f_X7_act dryM
  rw [if_pos q1, if_neg q2, q3]
  simp (disch := omega) only [f_X7_setHand, ix_c2_1, zlE, zbE, sV_eq, sR_at, sR_sR, sR_ne, ru_at, ru_ne, um, m0, io_in, io_cl, eq_self, if_true, ite_true]
theorem op_dry (H : InvD 0 M nj nh nt A B) (hM : M < 900000) (v : Int32) : Sim M (f_X11_dry v A) (f_X12_dry v B) := by
  have H0 := H.thr 0
  unfold f_X11_dry f_X12_dry
  rw [zlE]
  generalize sV B 41 0 0 = B0 at H0 ⊢
  obtain ⟨t1, t2, t3, t4, t5, t6, t7, t8, t9, t10, t11⟩ := H0.told
  have n6 := t11.2.1
  rcases isHand2 t2 t5 (by omega) v with ⟨h, hh, rfl, e1, e2⟩ | ⟨e1, e2⟩
  · rw [e1, e2, zbE, zbE, if_pos (by decide), if_pos (by decide)]
    obtain ⟨A1, B1, k1, k2, H1, fA, fB⟩ := keep_ok H0
    rw [k1, zbE, k2, zbE, ix_k10, c_actDry (o := 17) (by decide) (by omega), zbE, r_dries (w := 54) (by decide) (by omega), zbE]
    obtain ⟨R1, R2⟩ := H1.row
    obtain ⟨A3, B3, n1, n2, H3, g1, g2, -, -⟩ := act_end H1 (sameC.rfl' _) (sameR.rfl' _) (M' := M + 1) (by omega) ⟨R1.dry (h := h) (by omega), R2.dry (by omega) (by omega)⟩ (Int32.ofNat (10 + h))
    rw [c_minute, zbE, sR_at, n1, zbE, n2, zbE]
    exact sim_fin H3 (by omega) rfl
  · rw [e1, e2, zbE, zbE, if_neg (by decide), if_neg (by decide)]
    exact Sim.no H0 _
theorem op_pause (H : InvD 0 M nj nh nt A B) (hM : M < 900000) (v : Int32) : Sim M (f_X11_pause v A) (f_X12_pause v B) := by
  have H0 := H.thr 0
  unfold f_X11_pause f_X12_pause
  rw [zlE, if_rng']
  generalize sV B 41 0 0 = B0 at H0 ⊢
  obtain ⟨t1, t2, t3, t4, t5, t6, t7, t8, t9, t10, t11⟩ := H0.told
  have n4 := t11.1
  have e1 : (1 : Int64).toInt = 1 := by decide
  have e60 : (60 : Int64).toInt = 60 := by decide
  have f60 : (60 : Int32).toInt = 60 := by decide
  simp only [r_isIn, e1, e60, zbE, ti_1, f60]
  rw [t7, t4]
  by_cases hn : nj = 0
  · subst hn
    rw [if_pos rfl, if_pos rfl, if_pos (by decide)]
    exact Sim.no H0 _
  · have q1 : ¬ Int32.ofNat nj = 0 := fun q => by have := (io_eq (a := nj) (b := 0) (by omega) (by omega)).mp q; omega
    rw [if_neg hn, if_neg (by decide), if_neg q1]
    by_cases hv : 1 ≤ v.toInt ∧ v.toInt ≤ 60
    · simp only [if_pos hv]
      rw [if_pos (by decide)]
      obtain ⟨A1, B1, k1, k2, H1, fA, fB⟩ := keep_ok H0
      obtain ⟨s1, s2, s3, s4, s5, s6, s7, s8, s9, s10, s11⟩ := H1.told
      obtain ⟨R1, R2⟩ := H1.row
      rw [k1, zbE, k2, zbE, c_rest (o := 17) (by decide) s1 (by omega) s2 s11.2.1, zbE, r_waits (w := 54) (by decide) s4 (by omega) s5 s11.2.1, zbE]
      have hr : IRow (B1.1 46) nj (M + 60) (restM (fun k => A1.1 13 (24 + k)) nj nh v (A1.1 18)) (restM (B1.1 48) nj nh v (B1.1 54)) := by
        have ec : restM (fun k => A1.1 13 (24 + k)) nj nh v (A1.1 18) = restM (B1.1 48) nj nh v (A1.1 18) := by
          unfold restM
          rw [restH_cg nh (fun k hk => s9 _ (by have := s11.2.1; omega))]
        rw [ec]
        exact ⟨R1.rest s11.1 s11.2.1 v, R2.rest (by omega) ⟨by omega, by omega⟩ s11.1 s11.2.1 (fun h hh => (s11.2.2.2.2.2.2.1 h hh).1)⟩
      have fin : ∀ c : Int32, Sim M (zb (f_X7_minute 17 (sR A1 18 (restM (fun k => A1.1 13 (24 + k)) nj nh v (A1.1 18)))) fun r17 S16 => zb (f_X1_note c r17 S16) fun _ S19 => zb (f_X7_minute 17 S19) fun r23 S22 => some (r23, S22)) (zb (f_X12_writes c (sR B1 54 (restM (B1.1 48) nj nh v (B1.1 54)))) fun _ S16 => some (S16.1 54 65, S16)) := by
        intro c
        obtain ⟨A3, B3, n1, n2, H3, g1, g2, -, -⟩ := act_end H1 (sameC.rfl' _) (sameR.rfl' _) (by omega) hr c
        rw [c_minute, zbE, sR_at, n1, zbE, n2, zbE, c_minute, zbE]
        exact sim_fin H3 (by omega) (H3.row.1.pl (by omega))
      by_cases h10 : v = 10
      · have := fin 4
        simp only [zlE, h10] at this ⊢
        exact this
      · simp only [zlE]
        rw [if_pos h10, if_pos h10]
        exact fin 6
    · simp only [if_neg hv]
      rw [if_neg (by decide)]
      exact Sim.no H0 _
theorem op_table (H : InvD 0 M nj nh nt A B) (hM : M < 900000) (v : Int32) : Sim M (f_X11_table v A) (f_X12_table v B) := by
  have H0 := H.thr 0
  unfold f_X11_table f_X12_table
  rw [zlE]
  generalize sV B 41 0 0 = B0 at H0 ⊢
  obtain ⟨t1, t2, t3, t4, t5, t6, t7, t8, t9, t10, t11⟩ := H0.told
  have n4 := t11.1
  rcases isJar2 t1 t4 (by omega) v with ⟨j, hj, rfl, e1, e2⟩ | ⟨e1, e2⟩
  · obtain ⟨tb, b1, b2, b3, b4⟩ := H0.tab
    rw [e1, e2, zbE, zbE, if_neg (by decide), if_neg (by decide), c_onTable (o := 17) b3, zbE, b4]
    by_cases hq : Int32.ofNat j = Int32.ofNat tb
    · rw [if_neg (fun q => q hq), if_neg (fun q => q hq.symm)]
      exact Sim.no H0 _
    · rw [if_pos hq, if_pos (fun q => hq q.symm)]
      obtain ⟨A1, B1, k1, k2, H1, fA, fB⟩ := keep_ok H0
      obtain ⟨R1, R2⟩ := H1.row
      rw [k1, zbE, k2, zbE]
      simp only [zlE, sV_eq]
      obtain ⟨A3, B3, n1, n2, H3, g1, g2, -, -⟩ := act_end H1 (sameC.rfl' _) (sameR.rfl' _) (M' := M) (by omega) ⟨R1.wr (k := 64) (x := Int32.ofNat j) (by omega) rfl, R2.table hj n4⟩ (30 + Int32.ofNat j)
      rw [c_minute, zbE, sR_at, n1, zbE, n2, zbE]
      exact sim_fin H3 (by omega) rfl
  · rw [e1, e2, zbE, zbE, if_pos rfl, if_pos rfl]
    exact Sim.no H0 _
end ML
