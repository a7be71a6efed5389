/-! What is asked. -/
section MQ
variable {d M nj nh nt : Nat} {A B : zS}
theorem sim_obs {r r' : Int32} {A' B' : zS} (H : InvD 0 M nj nh nt A B) (hA : obsC A A') (hB : obsR B B') (e : r = r') : Sim M (some (r, A')) (some (r', B')) := sim_fin (H.obs hA hB) (by omega) e
theorem op_grip (H : InvD 0 M nj nh nt A B) (hM : M < 900000) (v1 v2 v3 : Int32) : Sim M (f_X11_grip v1 v2 v3 A) (f_X12_grip v1 v2 v3 B) := by
  have H0 := H.thr 0
  unfold f_X11_grip f_X12_grip
  rw [zlE]
  generalize sV B 41 0 0 = B0 at H0 ⊢
  have T := H0.told
  obtain ⟨t1, t2, t3, t4, t5, t6, t7, t8, t9, t10, t11⟩ := H0.told
  have n4 := t11.1
  have n6 := t11.2.1
  have n44 := t11.2.2.1
  rcases isHand2 t2 t5 (by omega) v1 with ⟨h, hh, rfl, e2, e3⟩ | ⟨e2, e3⟩
  case inr =>
    rw [e2, e3, zbE, zbE, if_pos rfl, if_pos rfl]
    exact Sim.no H0 _
  rw [e2, e3, zbE, zbE, if_neg n10, if_neg n10]
  rcases isTool2 t3 t6 (by omega) v2 with ⟨t, ht, rfl, e4, e5⟩ | ⟨e4, e5⟩
  case inr =>
    rw [e4, e5, zbE, zbE, if_pos rfl, if_pos rfl]
    exact Sim.no H0 _
  rw [e4, e5, zbE, zbE, if_neg n10, if_neg n10]
  rcases isJar2 t1 t4 (by omega) v3 with ⟨j, hj, rfl, e6, e7⟩ | ⟨e6, e7⟩
  case inr =>
    rw [e6, e7, zbE, zbE, if_neg n00, if_pos rfl]
    exact Sim.no H0 _
  rw [e6, e7, zbE, zbE, if_pos n10, if_neg n10]
  obtain ⟨W, w1, w2⟩ := H0.law
  obtain ⟨A2, ga, sa⟩ := c_gripOn w1 (o := 17) (h := h) (j := j) (t := t) (by decide) (by decide) (by omega) (by omega) (fun k hk => by have := ht k hk; omega)
  obtain ⟨B2, gb, sb⟩ := r_gripOf w2 (w := 54) (h := h) (j := j) (t := t) (by omega) (by omega) (fun k hk => by have := ht k hk; omega) (gBd_of t11 (H0.row.2.tr H0.row.1) hh hj ht)
  rw [ga, gb, zbE, zbE]
  exact sim_obs H0 (obsC_same sa H0.longC) (obsR_same sb H0.longR) (grip_eq (W := W) T H0.row.1 (by omega) (by omega) (fun k hk => by have := ht k hk; omega))
theorem op_lacks (H : InvD 0 M nj nh nt A B) (hM : M < 900000) (v1 v2 v3 : Int32) : Sim M (f_X11_lacks v1 v2 v3 A) (f_X12_lacks v1 v2 v3 B) := by
  have H0 := H.thr 0
  unfold f_X11_lacks f_X12_lacks
  rw [zlE]
  generalize sV B 41 0 0 = B0 at H0 ⊢
  have T := H0.told
  obtain ⟨t1, t2, t3, t4, t5, t6, t7, t8, t9, t10, t11⟩ := H0.told
  have n4 := t11.1
  have n6 := t11.2.1
  have n44 := t11.2.2.1
  rcases isHand2 t2 t5 (by omega) v1 with ⟨h, hh, rfl, e2, e3⟩ | ⟨e2, e3⟩
  case inr =>
    rw [e2, e3, zbE, zbE, if_pos rfl, if_pos rfl]
    exact Sim.no H0 _
  rw [e2, e3, zbE, zbE, if_neg n10, if_neg n10]
  rcases isTool2 t3 t6 (by omega) v2 with ⟨t, ht, rfl, e4, e5⟩ | ⟨e4, e5⟩
  case inr =>
    rw [e4, e5, zbE, zbE, if_pos rfl, if_pos rfl]
    exact Sim.no H0 _
  rw [e4, e5, zbE, zbE, if_neg n10, if_neg n10]
  rcases isJar2 t1 t4 (by omega) v3 with ⟨j, hj, rfl, e6, e7⟩ | ⟨e6, e7⟩
  case inr =>
    rw [e6, e7, zbE, zbE, if_pos rfl, if_pos rfl]
    exact Sim.no H0 _
  rw [e6, e7, zbE, zbE, if_neg n10, if_neg n10, c_isClosed (by omega), zbE]
  simp (disch := omega) only [ix_m7, ix_p5, ix_p6, io_in, io_cl, if_true]
  rw [← H0.row.1.pl (k := 7 * j + 5) (by omega), ← H0.row.1.pl (k := 7 * j + 6) (by omega)]
  obtain ⟨-, -, -, -, c5, c6, -⟩ := H0.row.2.2.1 j (by omega)
  have n01 : ¬ (0 : Int32) = 1 := by decide
  obtain ⟨W, w1, w2⟩ := H0.law
  obtain ⟨A2, ga, sa⟩ := c_gripOn w1 (o := 17) (h := h) (j := j) (t := t) (by decide) (by decide) (by omega) (by omega) (fun k hk => by have := ht k hk; omega)
  obtain ⟨B2, gb, sb⟩ := r_gripOf w2 (w := 54) (h := h) (j := j) (t := t) (by omega) (by omega) (fun k hk => by have := ht k hk; omega) (gBd_of t11 (H0.row.2.tr H0.row.1) hh hj ht)
  rcases c5 with c5 | c5
  · rcases c6 with c6 | c6
    · rw [if_pos (show A.1 (17 + 1) (7 * j + 5) = 0 ∧ A.1 (17 + 1) (7 * j + 6) = 0 from ⟨c5, c6⟩), if_pos n10, c5, c6, if_neg n01, if_pos n01, c_hold (by omega), zbE, ga, zbE, r_holdOf (by omega), zbE, gb, zbE]
      refine sim_obs H0 (obsC_same sa H0.longC) (obsR_same sb H0.longR) ?_
      rw [grip_eq (W := W) T H0.row.1 (by omega) (by omega) (fun k hk => by have := ht k hk; omega)]
      show (if 0 < holdM (A.1 18) j - _ then holdM (A.1 18) j - _ else 0) = _
      rw [H0.row.1.hold (by omega)]
    · rw [if_neg (show ¬ (A.1 (17 + 1) (7 * j + 5) = 0 ∧ A.1 (17 + 1) (7 * j + 6) = 0) from fun q => n10 (c6.symm.trans q.2)), if_neg n00, c5, c6, if_neg n01, if_neg (fun q => q rfl)]
      exact Sim.no H0 _
  · rw [if_neg (show ¬ (A.1 (17 + 1) (7 * j + 5) = 0 ∧ A.1 (17 + 1) (7 * j + 6) = 0) from fun q => n10 (c5.symm.trans q.1)), if_neg n00, c5, if_pos rfl]
    exact Sim.no H0 _
theorem op_safe (H : InvD 0 M nj nh nt A B) (hM : M < 900000) : Sim M (f_X11_safe A) (f_X12_safe B) := by
  have H0 := H.thr 0
  unfold f_X11_safe f_X12_safe
  rw [zlE]
  generalize sV B 41 0 0 = B0 at H0 ⊢
  obtain ⟨t1, t2, t3, t4, t5, t6, t7, t8, t9, t10, t11⟩ := H0.told
  rcases shut2 H0 with ⟨tb, b1, b2, b3, b4, b5, b6, e2, e3, -⟩ | ⟨e2, e3, -⟩
  · rw [e2, e3, zbE, zbE, if_pos n10, if_neg n10, c_onTable (o := 17) b3, zbE, c_item0_5 b2, zbE, c_lid (x := 3) (c := 3) b3 b2 (by omega) rfl, zbE, zlE, b4]
    simp (disch := omega) only [ix_m7, ix_m6, ix_p5, ix_p3, io_in, io_cl, if_true]
    refine sim_fin H0 (by omega) ?_
    rw [t8 (6 * tb + 5) (by omega), H0.row.1.pl (k := 7 * tb + 3) (by omega)]
    have c7 := (H0.row.2.2.1 tb b2).2.2.2.2.2.2 b6 b1
    have c3 := (H0.row.2.2.1 tb b2).2.2.2.1
    have cg := (t11.2.2.2.2.2.1 tb b1).2.2.2.2.2
    rw [H0.row.1.pl (k := 7 * tb + 3) (by omega)] at c7 c3
    unfold bd at c3 cg
    have e60 : (60 : Int32).toInt = 60 := by decide
    have ed : (B0.1 46 (6 * tb + 5) - B0.1 54 (7 * tb + 3)).toInt = (B0.1 46 (6 * tb + 5)).toInt - (B0.1 54 (7 * tb + 3)).toInt := ti_sub (by omega)
    apply ti_inj
    by_cases h1 : B0.1 46 (6 * tb + 5) - B0.1 54 (7 * tb + 3) < 60
    · rw [if_pos h1]
      by_cases h2 : 0 < B0.1 46 (6 * tb + 5) - B0.1 54 (7 * tb + 3)
      · rw [if_pos h2]
      · rw [if_neg h2, ti_0]
        rw [Int32.lt_iff_toInt_lt, ti_0] at h2
        omega
    · rw [if_neg h1, if_pos (by decide)]
  · rw [e2, e3, zbE, zbE, if_neg n00, if_pos rfl]
    exact Sim.no H0 _
theorem ti_cases6 {v : Int32} (h0 : 0 ≤ v.toInt) (h6 : v.toInt ≤ 6) : v = 0 ∨ v = 1 ∨ v = 2 ∨ v = 3 ∨ v = 4 ∨ v = 5 ∨ v = 6 := by
  have : v.toInt = 0 ∨ v.toInt = 1 ∨ v.toInt = 2 ∨ v.toInt = 3 ∨ v.toInt = 4 ∨ v.toInt = 5 ∨ v.toInt = 6 := by omega
  rcases this with h | h | h | h | h | h | h
  · exact Or.inl (ti_inj h)
  · exact Or.inr (Or.inl (ti_inj h))
  · exact Or.inr (Or.inr (Or.inl (ti_inj h)))
  · exact Or.inr (Or.inr (Or.inr (Or.inl (ti_inj h))))
  · exact Or.inr (Or.inr (Or.inr (Or.inr (Or.inl (ti_inj h)))))
  · exact Or.inr (Or.inr (Or.inr (Or.inr (Or.inr (Or.inl (ti_inj h))))))
  · exact Or.inr (Or.inr (Or.inr (Or.inr (Or.inr (Or.inr (ti_inj h))))))
theorem op_hand (H : InvD 0 M nj nh nt A B) (hM : M < 900000) (v1 v2 : Int32) : Sim M (f_X11_hand v1 v2 A) (f_X12_hand v1 v2 B) := by
  have H0 := H.thr 0
  unfold f_X11_hand f_X12_hand
  rw [zlE]
  generalize sV B 41 0 0 = B0 at H0 ⊢
  obtain ⟨t1, t2, t3, t4, t5, t6, t7, t8, t9, t10, t11⟩ := H0.told
  have n6 := t11.2.1
  have e0 : (0 : Int64).toInt = 0 := by decide
  have e6 : (6 : Int64).toInt = 6 := by decide
  rcases isHand2 t2 t5 (by omega) v1 with ⟨h, hh, rfl, e2, e3⟩ | ⟨e2, e3⟩
  case inr =>
    rw [e2, e3, zbE, zbE, if_neg n00, if_pos rfl]
    exact Sim.no H0 _
  rw [e2, e3, zbE, zbE, if_pos n10, if_neg n10, r_isIn, e0, e6, zbE]
  obtain ⟨tb, b1, b2, b3, b4⟩ := H0.tab
  by_cases hv : 0 ≤ v2.toInt ∧ v2.toInt ≤ 6
  · have hn : ¬ (v2.toInt < 0 ∨ 6 < v2.toInt) := by omega
    rw [if_pos hv, if_neg hn, if_pos n10, if_neg hn, b4]
    have hC : ∀ c, c < 2 → f_X7_handCell 17 (Int32.ofNat h) (Int32.ofNat c) A = some (A.1 18 (28 + 2 * h + c), A) := by
      intro c hc
      have e : 28 + Int32.ofNat h * 2 + Int32.ofNat c = Int32.ofNat (28 + 2 * h + c) := by rw [Int32.ofNat_add, Int32.ofNat_add, Int32.ofNat_mul, Int32.mul_comm]; rfl
      unfold f_X7_handCell
      rw [e, if_pos (io_in (by omega) (by omega)), io_cl (by omega)]
    have p : ∀ c : Nat, 5 * Int32.ofNat h + Int32.ofNat c = Int32.ofNat (5 * h + c) := fun c => by rw [Int32.ofNat_add, Int32.ofNat_mul]; rfl
    rcases ti_cases6 hv.1 hv.2 with rfl | rfl | rfl | rfl | rfl | rfl | rfl
    · have := hC 0 (by omega)
      rw [if_pos rfl, if_pos rfl, show f_X7_handCell 17 (Int32.ofNat h) 0 A = _ from this, zbE]
      simp (disch := omega) only [ix_m2, ix_k28, io_in, io_cl, if_true]
      exact sim_fin H0 (by omega) (H0.row.1.pl (by omega))
    · have q := p 1
      rw [if_neg (by decide), if_pos rfl, if_neg (by decide), if_pos rfl, c_item1_1 (by omega), zbE, show 5 * Int32.ofNat h + 1 = _ from q, if_pos (io_in (by omega) (by omega)), io_cl (by omega)]
      exact sim_fin H0 (by omega) (t9 _ (by omega))
    · have := hC 1 (by omega)
      rw [if_neg (by decide), if_neg (by decide), if_pos rfl, if_neg (by decide), if_neg (by decide), if_pos rfl, show f_X7_handCell 17 (Int32.ofNat h) 1 A = _ from this, zbE]
      simp (disch := omega) only [ix_m2, ix_k28, ix_p1, io_in, io_cl, if_true]
      exact sim_fin H0 (by omega) (H0.row.1.pl (by omega))
    · have q := p 3
      rw [if_neg (by decide), if_neg (by decide), if_neg (by decide), if_pos rfl, if_neg (by decide), if_neg (by decide), if_neg (by decide), if_pos rfl, c_item1_3 (by omega), zbE, show 5 * Int32.ofNat h + 3 = _ from q, if_pos (io_in (by omega) (by omega)), io_cl (by omega)]
      exact sim_fin H0 (by omega) (t9 _ (by omega))
    · have q := p 4
      rw [if_neg (by decide), if_neg (by decide), if_neg (by decide), if_neg (by decide), if_pos rfl, if_neg (by decide), if_neg (by decide), if_neg (by decide), if_neg (by decide), if_pos rfl, c_item1_4 (by omega), zbE, show 5 * Int32.ofNat h + 4 = _ from q, if_pos (io_in (by omega) (by omega)), io_cl (by omega)]
      exact sim_fin H0 (by omega) (t9 _ (by omega))
    · rw [if_neg (by decide), if_neg (by decide), if_neg (by decide), if_neg (by decide), if_neg (by decide), if_pos rfl, if_neg (by decide), if_neg (by decide), if_neg (by decide), if_neg (by decide), if_neg (by decide), if_pos rfl, c_item1_0 (by omega), zbE]
      simp (disch := omega) only [ix_m5, io_in, io_cl, if_true]
      exact sim_fin H0 (by omega) (t9 _ (by omega))
    · rw [if_neg (by decide), if_neg (by decide), if_neg (by decide), if_neg (by decide), if_neg (by decide), if_neg (by decide), if_pos rfl, if_neg (by decide), if_neg (by decide), if_neg (by decide), if_neg (by decide), if_neg (by decide), if_neg (by decide), if_pos rfl, c_loosened (o := 17) b3 b1 (by omega), zbE]
      simp (disch := omega) only [ix_m4, ix_k40, ix_aa, io_in, io_cl, if_true]
      exact sim_fin H0 (by omega) (H0.row.1.2.1 tb h b1 (by omega))
  · have hn : (v2.toInt < 0 ∨ 6 < v2.toInt) := by omega
    rw [if_neg hv, if_pos hn, if_neg n00]
    exact Sim.no H0 _
theorem op_tool (H : InvD 0 M nj nh nt A B) (hM : M < 900000) (v1 v2 : Int32) : Sim M (f_X11_tool v1 v2 A) (f_X12_tool v1 v2 B) := by
  have H0 := H.thr 0
  unfold f_X11_tool f_X12_tool
  rw [zlE]
  generalize sV B 41 0 0 = B0 at H0 ⊢
  obtain ⟨t1, t2, t3, t4, t5, t6, t7, t8, t9, t10, t11⟩ := H0.told
  have n44 := t11.2.2.1
  have e0 : (0 : Int64).toInt = 0 := by decide
  have e1 : (1 : Int64).toInt = 1 := by decide
  rcases isTool2 t3 t6 (by omega) v1 with ⟨t, ht, rfl, e4, -⟩ | ⟨e4, e5⟩
  · rw [e4, t6]
    cases t with
    | none =>
      have q : toolV none < 0 := by decide
      rw [if_pos (show toolV none = -1 from rfl), if_pos q]
      exact Sim.no H0 _
    | some k =>
      have hk := ht k rfl
      have q0 : ¬ toolV (some k) = -1 := io_ne1 (by omega)
      have q1 : ¬ toolV (some k) < 0 := fun q => by
        have : (Int32.ofNat k).toInt < 0 := i_lt0.mp q
        rw [ti_nat (by omega)] at this
        omega
      have q2 : ¬ Int32.ofNat nt ≤ toolV (some k) := fun q => by
        have := (io_le (a := nt) (b := k) (by omega) (by omega)).mp q
        omega
      rw [if_neg q0, zbE, if_neg n10, if_rng', if_neg q1, if_neg q2, r_isIn, e0, e1, zbE, ti_0, ti_1]
      by_cases hv : 0 ≤ v2.toInt ∧ v2.toInt ≤ 1
      · rw [if_pos hv, if_pos hv, if_neg n10]
        have hc : v2 = 0 ∨ v2 = 1 := by
          have : v2.toInt = 0 ∨ v2.toInt = 1 := by omega
          exact this.imp (fun h => ti_inj h) (fun h => ti_inj h)
        have p : ∀ c : Nat, 2 * Int32.ofNat k + Int32.ofNat c = Int32.ofNat (2 * k + c) := fun c => by rw [Int32.ofNat_add, Int32.ofNat_mul]; rfl
        rcases hc with rfl | rfl
        · rw [show f_X10_item 2 (toolV (some k)) 0 A = _ from c_item2_0 (a := k) (by omega) A, zbE, show 2 * toolV (some k) + 0 = _ from p 0, if_pos (io_in (by omega) (by omega)), io_cl (by omega)]
          exact sim_fin H0 (by omega) (t10 _ (by omega))
        · rw [show f_X10_item 2 (toolV (some k)) 1 A = _ from c_item2_1 (a := k) (by omega) A, zbE, show 2 * toolV (some k) + 1 = _ from p 1, if_pos (io_in (by omega) (by omega)), io_cl (by omega)]
          exact sim_fin H0 (by omega) (t10 _ (by omega))
      · rw [if_neg hv, if_neg hv, if_pos rfl]
        exact Sim.no H0 _
  · rw [e4, t6]
    have eR : ∀ X : Option (Int32 × zS), (if v1 < 0 then some ((-1 : Int32), B0) else if Int32.ofNat nt ≤ v1 then some ((-1), B0) else X) = some (-1, B0) := by
      intro X
      by_cases h0 : v1 < 0
      · rw [if_pos h0]
      · rw [if_neg h0]
        rcases idx v1 nt (by omega) with ⟨a, ha, rfl⟩ | h
        · exfalso
          unfold f_X11_isTool at e4
          rw [t3] at e4
          have q1 : ¬ Int32.ofNat a < -1 := fun q => by rw [Int32.lt_iff_toInt_lt, ti_n1, ti_nat (by omega)] at q; omega
          have q2 : ¬ Int32.ofNat nt ≤ Int32.ofNat a := fun q => by have := (io_le (a := nt) (b := a) (by omega) (by omega)).mp q; omega
          rw [if_neg q1, if_neg q2] at e4
          have : (1 : Int32) = 0 := congrArg Prod.fst (Option.some.inj e4)
          exact n10 this
        · rw [if_pos ((i_le0 (by omega)).mpr (by rw [i_lt0] at h0; omega))]
    rw [eR]
    by_cases hm : v1 = -1
    · rw [if_pos hm]
      exact Sim.no H0 _
    · rw [if_neg hm, zbE, if_pos rfl]
      exact Sim.no H0 _
end MQ
