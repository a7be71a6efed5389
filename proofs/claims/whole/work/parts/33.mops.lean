/-! Images, the log, what is asked. -/
section MP
variable {d M nj nh nt : Nat} {A B : zS}
theorem r_cp62 {w : Nat} (hw : w ≠ 62) {ex : Int32 → zS → Option (Unit × zS)} : ∀ (m i f : Nat), i + m = 66 → m < f → f_X12_copy_rw_62_L2 w ex f (Int32.ofNat i) (sR B 62 (cpy (B.1 w) (B.1 62) 0 0 i)) = ex 66 (sR B 62 (cpy (B.1 w) (B.1 62) 0 0 66)) := by
  intro m
  induction m with
  | zero =>
    intro i f hi hf
    obtain ⟨f, rfl⟩ : ∃ g, f = g + 1 := ⟨f - 1, by omega⟩
    have hi : i = 66 := by omega
    subst hi
    unfold f_X12_copy_rw_62_L2
    exact if_pos (Int32.le_refl _)
  | succ m ih =>
    intro i f hi hf
    obtain ⟨f, rfl⟩ : ∃ g, f = g + 1 := ⟨f - 1, by omega⟩
    have e2 : ru (cpy (B.1 w) (B.1 62) 0 0 i) i (B.1 w i) = cpy (B.1 w) (B.1 62) 0 0 (i + 1) := by
      funext k
      unfold ru cpy
      by_cases c : k = i
      · subst c
        rw [if_pos rfl, if_pos (by omega), Nat.zero_add, Nat.sub_zero]
      · rw [if_neg c]
        by_cases c2 : 0 ≤ k ∧ k < 0 + i
        · rw [if_pos c2, if_pos (by omega)]
        · rw [if_neg c2, if_neg (by omega)]
    have h66 : ¬ (66 : Int32) ≤ Int32.ofNat i := fun q => by have := (io_le (a := 66) (b := i) (by omega) (by omega)).mp q; omega
    unfold f_X12_copy_rw_62_L2
    rw [if_neg h66]
    simp (disch := omega) only [io_in, io_cl, if_true, zlE, sV_eq, sR_at, sR_sR, sR_ne, e2, io_sc]
    exact ih (i + 1) f (by omega) (by omega)
theorem r_cp26 {w : Nat} (hw : w ≠ 62) {ex : Int32 → zS → Option (Unit × zS)} : ∀ (m i f : Nat), i + m = 66 → m < f → f_X12_copy_62_rw_L2 w ex f (Int32.ofNat i) (sR B w (cpy (B.1 62) (B.1 w) 0 0 i)) = ex 66 (sR B w (cpy (B.1 62) (B.1 w) 0 0 66)) := by
  intro m
  induction m with
  | zero =>
    intro i f hi hf
    obtain ⟨f, rfl⟩ : ∃ g, f = g + 1 := ⟨f - 1, by omega⟩
    have hi : i = 66 := by omega
    subst hi
    unfold f_X12_copy_62_rw_L2
    exact if_pos (Int32.le_refl _)
  | succ m ih =>
    intro i f hi hf
    obtain ⟨f, rfl⟩ : ∃ g, f = g + 1 := ⟨f - 1, by omega⟩
    have e2 : ru (cpy (B.1 62) (B.1 w) 0 0 i) i (B.1 62 i) = cpy (B.1 62) (B.1 w) 0 0 (i + 1) := by
      funext k
      unfold ru cpy
      by_cases c : k = i
      · subst c
        rw [if_pos rfl, if_pos (by omega), Nat.zero_add, Nat.sub_zero]
      · rw [if_neg c]
        by_cases c2 : 0 ≤ k ∧ k < 0 + i
        · rw [if_pos c2, if_pos (by omega)]
        · rw [if_neg c2, if_neg (by omega)]
    have h66 : ¬ (66 : Int32) ≤ Int32.ofNat i := fun q => by have := (io_le (a := 66) (b := i) (by omega) (by omega)).mp q; omega
    unfold f_X12_copy_62_rw_L2
    rw [if_neg h66]
    simp (disch := omega) only [io_in, io_cl, if_true, zlE, sV_eq, sR_at, sR_sR, sR_ne, e2, io_sc]
    exact ih (i + 1) f (by omega) (by omega)
theorem r_copy62 {w : Nat} (hw : w ≠ 62) : f_X12_copy_rw_62 w B = some ((), sR B 62 (cpy (B.1 w) (B.1 62) 0 0 66)) := by
  have e := r_cp62 (B := B) hw (ex := fun _ S6 => some ((), S6)) 66 0 zN (by omega) (by unfold zN; omega)
  have e0 : cpy (B.1 w) (B.1 62) 0 0 0 = B.1 62 := by funext k; exact cpy_out (by omega)
  rw [e0, sR_self] at e
  exact e
theorem r_copy26 {w : Nat} (hw : w ≠ 62) : f_X12_copy_62_rw w B = some ((), sR B w (cpy (B.1 62) (B.1 w) 0 0 66)) := by
  have e := r_cp26 (B := B) hw (ex := fun _ S6 => some ((), S6)) 66 0 zN (by omega) (by unfold zN; omega)
  have e0 : cpy (B.1 62) (B.1 w) 0 0 0 = B.1 w := by funext k; exact cpy_out (by omega)
  rw [e0, sR_self] at e
  exact e
theorem nj_0 (T : ITold nj nh nt A B) : (nj = 0 ∧ A.1 0 17 = 0 ∧ B.1 41 24 = 0) ∨ (0 < nj ∧ ¬ A.1 0 17 = 0 ∧ ¬ B.1 41 24 = 0) := by
  obtain ⟨t1, t2, t3, t4, t5, t6, t7, t8, t9, t10, t11⟩ := T
  have n4 := t11.1
  by_cases hn : nj = 0
  · subst hn
    exact Or.inl ⟨rfl, t7, t4⟩
  · refine Or.inr ⟨by omega, ?_, ?_⟩
    · rw [t7, if_neg hn]; decide
    · rw [t4]; exact fun q => by have := (io_eq (a := nj) (b := 0) (by omega) (by omega)).mp q; omega
theorem op_image (H : InvD 0 M nj nh nt A B) (hM : M < 900000) : Sim M (f_X11_image A) (f_X12_image B) := by
  have H0 := H.thr 0
  unfold f_X11_image f_X12_image
  rw [zlE]
  generalize sV B 41 0 0 = B0 at H0 ⊢
  rcases nj_0 H0.told with ⟨-, e1, e2⟩ | ⟨hn, e1, e2⟩
  · rw [e1, e2, if_neg n00, if_neg n00]
    exact Sim.no H0 _
  · have e3 : f_X1_takeImage_17 A = some ((), sR (sR A 25 (cpy (A.1 18) (A.1 25) 0 0 66)) 21 (ru (A.1 21) 4 1)) := by
      have q0 : ((66 : Int32).toNatClampNeg) = 66 := by decide
      have q1 : ((0 : Int32).toNatClampNeg) = 0 := by decide
      unfold f_X1_takeImage_17
      rw [if_pos (by decide), q0, q1]
      simp only [zlE, sV_eq, sC_eq]
      rw [sR_ne _ (b := 21) _ (by decide)]
    rw [if_pos e1, if_pos e2, e3, r_copy62 (by decide), zbE, zbE, c_minute, zbE, zlE, sV_eq]
    have H0' := H0
    obtain ⟨u, h1, h2, ⟨W, w1, w2⟩, h4, h5, h6, ⟨r, x1, x2, x3, x4, x5, x6⟩, ⟨r2, l, y1, y2, y3, y4, y5, y6, y7⟩, h9, h10, h11, h12, h13, h14⟩ := H0
    refine sim_fin (M' := M) (nj := nj) (nh := nh) (nt := nt) ?inv (by omega) ?eq
    rotate_left
    · simp (disch := decide) only [sR_ne, h6.1.pl]
    · refine ⟨u, h1, h2, ⟨W, w1.of rfl rfl (fun b hb => by rw [sR_ne _ _ (by omega), sR_ne _ _ (by omega)]), w2.of rfl rfl rfl⟩, h4.of rfl rfl rfl (fun b hb => by rw [sR_ne _ _ (by omega), sR_ne _ _ (by omega)]) (fun _ => rfl) rfl rfl rfl rfl, h5.of rfl rfl (fun b hb => by rw [sR_ne _ _ (by omega), sR_ne _ _ (by omega)]) (fun _ => rfl) rfl (fun _ _ => rfl) (fun _ _ => rfl), h6, ?_, ?_, h9, ?_, h11, h12, h13, h14⟩
      · refine ⟨r, x1, x2, ?_, ?_, ?_, x6⟩
        · simp (disch := decide) only [sR_at, ru_ne, x3]
        · simp (disch := decide) only [sR_at, ru_ne, x4]
        · simp (disch := decide) only [sR_at, sR_ne, ru_ne, x5]
      · refine ⟨r2, l, y1, y2, y3, ?_, ?_, ?_, y7⟩
        · simp (disch := decide) only [sR_at, ru_ne, y4]
        · simp (disch := decide) only [sR_at, ru_ne, y5]
        · simp (disch := decide) only [sR_at, sR_ne, ru_ne, y6]
      · refine ⟨?_, Or.inr ⟨?_, h6.cg (fun k hk => ?_) (fun k hk => ?_)⟩⟩
        · simp (disch := decide) only [sR_at, sR_ne, ru_at]
        · simp (disch := decide) only [sR_at, ru_at]
        · show cpy (A.1 18) (A.1 25) 0 0 66 k = _
          exact cpy_0 hk
        · show cpy (B0.1 54) (B0.1 62) 0 0 66 k = _
          exact cpy_0 hk
theorem op_back (H : InvD 0 M nj nh nt A B) (hM : M < 900000) : Sim M (f_X11_back A) (f_X12_back B) := by
  have H0 := H.thr 0
  unfold f_X11_back f_X12_back
  rw [zlE]
  generalize sV B 41 0 0 = B0 at H0 ⊢
  have H0' := H0
  obtain ⟨u, h1, h2, ⟨W, w1, w2⟩, h4, h5, h6, ⟨r, x1, x2, x3, x4, x5, x6⟩, ⟨r2, l, y1, y2, y3, y4, y5, y6, y7⟩, h9, ⟨i1, i2⟩, h11, h12, h13, h14⟩ := H0
  rcases i2 with i2 | ⟨i2, i3⟩
  · rw [← i1, i2, if_neg n00, if_neg n00]
    exact Sim.no H0' _
  · rw [← i1, i2, if_pos n10, if_pos n10]
    have e3 : f_X1_giveImage_17 A = some ((), sR (sR A 18 (cpy (A.1 25) (A.1 18) 0 0 66)) 21 (ru (A.1 21) 6 0)) := by
      have q0 : ((66 : Int32).toNatClampNeg) = 66 := by decide
      have q1 : ((0 : Int32).toNatClampNeg) = 0 := by decide
      unfold f_X1_giveImage_17
      rw [if_pos (by decide), q0, q1]
      simp only [zlE, sV_eq, sC_eq]
      rw [sR_ne _ (b := 21) _ (by decide)]
    rw [e3, r_copy26 (by decide), zbE, zbE, c_minute, zbE, zlE, sV_eq]
    have hrow : IRow (B0.1 46) nj M (cpy (A.1 25) (A.1 18) 0 0 66) (cpy (B0.1 62) (B0.1 54) 0 0 66) := i3.cg (fun k hk => cpy_0 hk) (fun k hk => cpy_0 hk)
    refine sim_fin (M' := M) (nj := nj) (nh := nh) (nt := nt) ?inv (by omega) ?eq
    rotate_left
    · simp (disch := decide) only [sR_ne, sR_at, hrow.1.pl]
    · refine ⟨0, h1, h2, ⟨W, w1.of rfl rfl (fun b hb => by rw [sR_ne _ _ (by omega), sR_ne _ _ (by omega)]), w2.of rfl rfl rfl⟩, h4.of rfl rfl rfl (fun b hb => by rw [sR_ne _ _ (by omega), sR_ne _ _ (by omega)]) (fun _ => rfl) rfl rfl rfl rfl, h5.of rfl rfl (fun b hb => by rw [sR_ne _ _ (by omega), sR_ne _ _ (by omega)]) (fun _ => rfl) rfl (fun _ _ => rfl) (fun _ _ => rfl), hrow, ?_, ?_, h9, ?_, h11, h12, h13, h14⟩
      · refine ⟨r, x1, by omega, ?_, ?_, ?_, fun i hi => absurd hi (by omega)⟩
        · simp (disch := decide) only [sR_at, ru_ne, x3]
        · simp (disch := decide) only [sR_at, ru_at]
          rfl
        · simp (disch := decide) only [sR_at, sR_ne, ru_at]
          rfl
      · refine ⟨r2, l, y1, y2, by omega, ?_, ?_, ?_, y7⟩
        · simp (disch := decide) only [sR_at, ru_ne, y4]
        · simp (disch := decide) only [sR_at, ru_ne, y5]
        · simp (disch := decide) only [sR_at, sR_ne, ru_ne, y6]
      · refine ⟨?_, Or.inr ⟨?_, i3⟩⟩
        · simp (disch := decide) only [sR_at, sR_ne, ru_ne, i1]
        · simp (disch := decide) only [sR_at, ru_ne, i1, i2]
          rw [← i1]
          exact i2
theorem op_log (H : InvD 0 M nj nh nt A B) (hM : M < 900000) (v1 v2 : Int32) : Sim M (f_X11_log v1 v2 A) (f_X12_log v1 v2 B) := by
  have H0 := H.thr 0
  unfold f_X11_log f_X12_log
  rw [zlE]
  generalize sV B 41 0 0 = B0 at H0 ⊢
  have H0' := H0
  obtain ⟨u, -, -, -, -, -, -, -, ⟨r2, l, y1, y2, y3, y4, y5, y6, y7⟩, -⟩ := H0
  have e0 : (0 : Int64).toInt = 0 := by decide
  have e1 : (1 : Int64).toInt = 1 := by decide
  have el : ((Int32.ofNat l - 1).toInt64).toInt = (l : Int) - 1 := by
    rw [Int32.toInt_toInt64, ti_sub (by rw [ti_nat (by omega), ti_1]; omega), ti_nat (by omega), ti_1]
  rw [y5, y6, if_rng', ti_0, ti_1]
  simp only [r_isIn, e0, e1, el, zbE]
  rcases idx v1 l (by omega) with ⟨i, hi, rfl⟩ | h
  · have q0 : ¬ Int32.ofNat i < 0 := fun q => by rw [i_lt0, ti_nat (by omega)] at q; omega
    have q1 : ¬ Int32.ofNat l ≤ Int32.ofNat i := fun q => by rw [io_le (by omega) (by omega)] at q; omega
    have q2 : 0 ≤ (Int32.ofNat i).toInt ∧ (Int32.ofNat i).toInt ≤ (l : Int) - 1 := by rw [ti_nat (by omega)]; omega
    rw [if_neg q0, if_neg q1, if_pos q2, if_neg n10]
    by_cases hv : 0 ≤ v2.toInt ∧ v2.toInt ≤ 1
    · rw [if_pos hv, if_pos hv, if_pos n10]
      have p1 : Int32.ofNat r2 + 120 = Int32.ofNat (r2 + 120) := by rw [Int32.ofNat_add]; rfl
      have p2 : Int32.ofNat (r2 + 120) - 1 = Int32.ofNat (r2 + 119) := by rw [io_m1 (by omega)]; rfl
      have p3 : Int32.ofNat (r2 + 119) - Int32.ofNat i = Int32.ofNat (r2 + 119 - i) := (Int32.ofNat_sub _ _ (by omega)).symm
      have p4 : Int32.ofNat l - 1 = Int32.ofNat (l - 1) := io_m1 (by omega)
      have p5 : Int32.ofNat (l - 1) - Int32.ofNat i = Int32.ofNat (l - 1 - i) := (Int32.ofNat_sub _ _ (by omega)).symm
      have pm : (r2 + 119 - i) % 60 = (r2 + 59 - i) % 60 := by omega
      have hge : (0 : Int32) ≤ Int32.ofNat ((r2 + 59 - i) % 60) := (io_le (a := 0) (by omega) (by omega)).mpr (by omega)
      unfold f_X1_noteAt
      rw [y4, p1, p2, p3, io_rem (m := 60) (n := 60) (by omega) rfl (by omega), pm, zlE, if_pos hge, y6, p4, p5]
      simp (disch := omega) only [io_in, io_cl, if_true]
      have z := y7 i hi
      by_cases h0 : v2 = 0
      · rw [if_neg (fun q => q h0), zbE, if_neg (fun q => q h0)]
        exact sim_fin H0' (by omega) z.1
      · rw [if_pos h0, zbE, if_pos h0]
        exact sim_fin H0' (by omega) z.2
    · rw [if_neg hv, if_neg hv, if_neg n00]
      exact Sim.no H0' _
  · have q2 : ¬ (0 ≤ v1.toInt ∧ v1.toInt ≤ (l : Int) - 1) := by omega
    rw [if_neg q2, if_pos rfl]
    by_cases h0 : v1 < 0
    · rw [if_pos h0]
      exact Sim.no H0' _
    · rw [if_neg h0, if_pos ((i_le0 (by omega)).mpr (by rw [i_lt0] at h0; omega))]
      exact Sim.no H0' _
end MP
