/-! Tried, forgiven, counts, who, lefties, a jar. -/
section MT
variable {d M nj nh nt : Nat} {A B : zS}
/-- other guesses -/
theorem InvD.guess (H : InvD 0 M nj nh nt A B) {f g : Nat → Int32} {f' g' o' : Nat → Int32} (h : IGuess (f 1) (f 2) g (f' 50) g' o') (hf' : ∀ k, k ≠ 50 → f' k = B.1 41 k) : InvD 0 M nj nh nt (sR (sR A 38 g) 37 f) (sR (sR (sR B 60 g') 61 o') 41 f') := by
  obtain ⟨u, h1, h2, ⟨W, w1, w2⟩, h4, h5, h6, h7, h8, h9, h10, h11, h12, h13, h14⟩ := H
  have a1 : ∀ b, b ≠ 37 → b ≠ 38 → (sR (sR A 38 g) 37 f).1 b = A.1 b := fun b hb hc => by rw [sR_ne _ _ hb, sR_ne _ _ hc]
  have b41 : ∀ k, k ≠ 50 → (sR (sR (sR B 60 g') 61 o') 41 f').1 41 k = B.1 41 k := fun k hk => by rw [sR_at, hf' k hk]
  obtain ⟨t1, t2, t3, t4, t5, t6, t7⟩ := h1
  refine ⟨u, ⟨t1, t2, t3, ?_, ?_, ?_, t7⟩, ?_, ⟨W, w1.of rfl rfl (fun b hb => a1 b (by omega) (by omega)), w2.of (b41 35 (by decide)) rfl rfl⟩, h4.of rfl rfl rfl (fun b hb => a1 b (by omega) (by omega)) (fun _ => rfl) (b41 7 (by decide)) (b41 35 (by decide)) rfl rfl, h5.of rfl rfl (fun b hb => a1 b (by omega) (by omega)) (fun _ => rfl) (b41 32 (by decide)) (fun _ _ => rfl) (fun _ _ => rfl), h6, ?_, ?_, ?_, ?_, h11, h12, h13, h14⟩
  · rw [b41 24 (by decide)]; exact t4
  · rw [b41 25 (by decide)]; exact t5
  · rw [b41 26 (by decide)]; exact t6
  · rw [b41 6 (by decide)]; exact h2
  · rw [b41 39 (by decide)]; exact h7
  · rw [b41 40 (by decide)]; exact h8
  · have q1 : (sR (sR A 38 g) 37 f).1 37 = f := sR_at _ _ _
    have q2 : (sR (sR A 38 g) 37 f).1 38 = g := by rw [sR_ne _ _ (by decide), sR_at]
    have q3 : (sR (sR (sR B 60 g') 61 o') 41 f').1 41 = f' := sR_at _ _ _
    have q4 : (sR (sR (sR B 60 g') 61 o') 41 f').1 60 = g' := by rw [sR_ne _ _ (by decide), sR_ne _ _ (by decide), sR_at]
    have q5 : (sR (sR (sR B 60 g') 61 o') 41 f').1 61 = o' := by rw [sR_ne _ _ (by decide), sR_at]
    rw [q1, q2, q3, q4, q5]
    exact h
  · rw [b41 53 (by decide)]; exact h10
theorem op_forgive (H : InvD 0 M nj nh nt A B) (hM : M < 900000) : Sim M (f_X11_forgive A) (f_X12_forgive B) := by
  have H0 := H.thr 0
  unfold f_X11_forgive f_X12_forgive f_X3_clear
  simp only [zlE, zbE]
  generalize sV B 41 0 0 = B0 at H0 ⊢
  have H0' := H0
  obtain ⟨u, -, -, -, -, -, -, -, -, ⟨n, g0, g1, g2, g3, g4, g5⟩, -⟩ := H0
  rw [g1, g2]
  by_cases hn : Int32.ofNat n = 0
  · have hn' : ¬ ¬ Int32.ofNat n = 0 := fun q => q hn
    rw [if_neg hn', if_neg hn']
    exact Sim.no H0' _
  · rw [if_pos hn, if_pos hn]
    have t := H0'.guess (f := ru (ru (A.1 37) 1 0) 2 0) (g := A.1 38) (f' := ru (B0.1 41) 50 0) (g' := B0.1 60) (o' := B0.1 61) ⟨0, by omega, by rw [ru_ne (by decide), ru_at]; rfl, by rw [ru_at]; rfl, fun i hi => absurd hi (by omega), fun i hi => absurd hi (by omega), by rw [ru_at]; rfl⟩ (fun k hk => ru_ne hk)
    have q60 : sR (sR B0 60 (B0.1 60)) 61 (B0.1 61) = B0 := by rw [sR_self, sR_self]
    rw [sR_self, q60] at t
    simp only [sV_eq, sR_at, sR_sR]
    exact sim_fin t (by omega) rfl
theorem op_tried (H : InvD 0 M nj nh nt A B) (hM : M < 900000) (v1 v2 : Int32) (hv2 : v2 = 0 ∨ v2 = 1) : Sim M (f_X11_tried v1 v2 A) (f_X12_tried v1 v2 B) := by
  have H0 := H.thr 0
  unfold f_X11_tried f_X12_tried
  rw [zlE]
  generalize sV B 41 0 0 = B0 at H0 ⊢
  have H0' := H0
  have e0 : (0 : Int64).toInt = 0 := by decide
  have e9 : (999 : Int64).toInt = 999 := by decide
  have f9 : (999 : Int32).toInt = 999 := by decide
  rw [if_rng, r_isIn, zbE, ti_0, f9, e0, e9]
  by_cases hv : 0 ≤ v1.toInt ∧ v1.toInt ≤ 999
  case neg =>
    rw [if_neg hv, if_neg hv, if_pos rfl]
    exact Sim.no H0 _
  rw [if_pos hv, if_pos hv, if_neg n10]
  obtain ⟨u, -, -, -, -, -, -, -, -, ⟨n, g0, g1, g2, g3, g4, g5⟩, -⟩ := H0
  unfold f_X3_adds
  rw [g1, g2]
  by_cases hn : n = 20
  · subst hn
    have q1 : (20 : Int32) ≤ Int32.ofNat 20 := by decide
    rw [if_pos q1, zbE, if_neg n00, if_pos (by decide)]
    exact Sim.no H0' _
  have q1 : ¬ (20 : Int32) ≤ Int32.ofNat n := fun q => by have := (io_le (a := 20) (b := n) (by omega) (by omega)).mp q; omega
  have q2 : ¬ Int32.ofNat n = 20 := fun q => by have := (io_eq (a := n) (b := 20) (by omega) (by omega)).mp q; omega
  rw [if_neg q1, if_neg q2]
  have hfit : ia_fit .boolean (.int v2) = true := by rcases hv2 with rfl | rfl <;> rfl
  have hnar : vp_nar .boolean v2 = v2 := by rcases hv2 with rfl | rfl <;> rfl
  have go : A.1 37 2 = 0 → Sim M (zb (if A.1 37 2 = 0 then (if ia_in (Int32.ofNat n) 20 = true then zl (sV A 38 ((Int32.ofNat n).toNatClampNeg) v1) fun S4 => zl (sV S4 37 1 ((S4.1 37 1) + 1)) fun S5 => if ia_fit .boolean (.int v2) = true then zl (sV S5 37 2 v2) fun S6 => some ((1 : Int32), S6) else none else none) else some (0, A)) fun r4 S3 => if ¬ r4 = 0 then some (S3.1 37 1, S3) else some ((-1), S3))
      (if ia_in (Int32.ofNat n) 20 = true then zl (sV B0 60 ((Int32.ofNat n).toNatClampNeg) v1) fun S11 => if ia_in (S11.1 41 50) 20 = true then zl (sV S11 61 ((S11.1 41 50).toNatClampNeg) (vp_nar .boolean v2)) fun S13 => zl (sV S13 41 50 ((S13.1 41 50) + 1)) fun S14 => some (S14.1 41 50, S14) else none else none) := by
    intro h0
    rw [if_pos h0, if_pos (io_in (by omega) (by omega)), io_cl (by omega), if_pos (io_in (by omega) (by omega))]
    simp only [zlE, sV_eq]
    simp (disch := decide) only [sR_at, sR_ne, sR_sR, g1, g2, io_sc, hfit, if_true, hnar, ru_ne, ru_at, zbE]
    rw [if_pos (io_in (by omega) (by omega)), io_cl (by omega)]
    rw [if_pos n10]
    have t := H0'.guess (f := ru (ru (A.1 37) 1 (Int32.ofNat (n + 1))) 2 v2) (g := ru (A.1 38) n v1) (f' := ru (B0.1 41) 50 (Int32.ofNat (n + 1))) (g' := ru (B0.1 60) n v1) (o' := ru (B0.1 61) n v2) ⟨n + 1, by omega, by rw [ru_ne (by decide), ru_at], by rw [ru_at], fun i hi => ?_, fun i hi => ?_, ?_⟩ (fun k hk => ru_ne hk)
    · exact sim_fin t (by omega) rfl
    · by_cases hi2 : i = n
      · subst hi2
        rw [ru_at, ru_at, ru_at]
        exact ⟨rfl, ⟨hv.1, hv.2⟩, hv2⟩
      · rw [ru_ne hi2, ru_ne hi2, ru_ne hi2]
        exact g3 i (by omega)
    · rw [ru_ne (by omega)]
      by_cases hi2 : i + 1 < n
      · exact g4 i hi2
      · rw [h0, if_neg (by omega), show n - 1 = i by omega] at g5
        exact g5.symm
    · rw [ru_at, if_neg (by omega), show n + 1 - 1 = n by omega, ru_at]
  simp only [zlE] at go ⊢
  by_cases hz : n = 0
  · subst hz
    have h0 : A.1 37 2 = 0 := g5
    rw [if_pos (show Int32.ofNat 0 ≤ 0 by decide)]
    exact go h0
  · have q3 : ¬ Int32.ofNat n ≤ 0 := fun q => by have := (io_le (a := n) (b := 0) (by omega) (by omega)).mp q; omega
    rw [if_neg hz] at g5
    rw [if_neg q3, io_m1 (by omega)]
    have i1 : ia_in (Int32.ofNat (n - 1)) 20 = true := io_in (by omega) (by omega)
    rw [if_pos i1, io_cl (show n - 1 < 2147483648 by omega), ← g5]
    by_cases h0 : A.1 37 2 = 0
    · have := go h0
      rw [if_pos h0] at this ⊢
      rw [if_pos h0]
      exact this
    · rw [if_neg h0, if_neg h0, zbE, if_neg n00]
      exact Sim.no H0' _
theorem op_count (H : InvD 0 M nj nh nt A B) (hM : M < 900000) (v : Int32) : Sim M (f_X11_count v A) (f_X12_count v B) := by
  have H0 := H.thr 0
  unfold f_X11_count f_X12_count
  rw [zlE]
  generalize sV B 41 0 0 = B0 at H0 ⊢
  by_cases hv : v.toInt < 0 ∨ 11 < v.toInt
  · rw [if_pos hv, if_pos hv]
    exact Sim.no H0 _
  rw [if_neg hv, if_neg hv]
  have T := nj_0 H0.told
  obtain ⟨t1, t2, t3, t4, t5, t6, t7, t8, t9, t10, t11⟩ := H0.told
  obtain ⟨tb, b1, b2, b3, b4⟩ := H0.tab
  have H0' := H0
  obtain ⟨u, -, ⟨n, a0, a1, a2, a3⟩, -, ⟨nl, l0, l1, l2, l3, l4⟩, ⟨np, p0, p1, p2, p3⟩, -, ⟨r, x1, x2, x3, x4, x5, x6⟩, ⟨r2, l, y1, y2, y3, y4, y5, y6, y7⟩, ⟨gn, g0, g1, g2, g3, g4, g5⟩, -⟩ := H0
  by_cases h0 : v = 0
  · subst h0
    rw [if_pos rfl, if_pos rfl, if_pos (by decide), show (0 : Int32).toNatClampNeg = 0 by decide]
    exact sim_fin H0' (by omega) (t1.trans t4.symm)
  rw [if_neg h0, if_neg h0]
  by_cases h1 : v = 1
  · subst h1
    rw [if_pos rfl, if_pos rfl, if_pos (by decide), show (1 : Int32).toNatClampNeg = 1 by decide]
    exact sim_fin H0' (by omega) (t2.trans t5.symm)
  rw [if_neg h1, if_neg h1]
  by_cases h2 : v = 2
  · subst h2
    rw [if_pos rfl, if_pos rfl, if_pos (by decide), show (2 : Int32).toNatClampNeg = 2 by decide]
    exact sim_fin H0' (by omega) (t3.trans t6.symm)
  rw [if_neg h2, if_neg h2]
  by_cases h3 : v = 3
  · rw [if_pos h3, if_pos h3]
    exact sim_fin H0' (by omega) (l1.trans l2.symm)
  rw [if_neg h3, if_neg h3]
  by_cases h4 : v = 4
  · rw [if_pos h4, if_pos h4]
    exact sim_fin H0' (by omega) (p1.trans p2.symm)
  rw [if_neg h4, if_neg h4]
  by_cases h5 : v = 5
  · rw [if_pos h5, if_pos h5]
    exact sim_fin H0' (by omega) (a1.trans a2.symm)
  rw [if_neg h5, if_neg h5]
  by_cases h6 : v = 6
  · rw [if_pos h6, if_pos h6]
    rcases T with ⟨-, e1, e2⟩ | ⟨-, e1, e2⟩
    · rw [e1, e2, if_pos rfl, if_neg n00]
      exact Sim.no H0' _
    · rw [if_neg e1, if_pos e2, c_onTable (o := 17) b3, zbE]
      exact sim_fin H0' (by omega) b4.symm
  rw [if_neg h6, if_neg h6]
  by_cases h7 : v = 7
  · rw [if_pos h7, if_pos h7, c_minute, zbE]
    exact sim_fin H0' (by omega) (H0'.row.1.pl (by omega))
  rw [if_neg h7, if_neg h7]
  by_cases h8 : v = 8
  · rw [if_pos h8, if_pos h8]
    refine sim_fin H0' (by omega) ?_
    rcases l4 with ⟨z1, z2⟩ | ⟨i, -, z1, z2⟩
    · rw [z1, z2]
    · rw [z1, z2]
  rw [if_neg h8, if_neg h8]
  by_cases h9 : v = 9
  · rw [if_pos h9, if_pos h9]
    exact sim_fin H0' (by omega) (g1.trans g2.symm)
  rw [if_neg h9, if_neg h9]
  by_cases h10 : v = 10
  · rw [if_pos h10, if_pos h10]
    exact sim_fin H0' (by omega) (x4.trans x5.symm)
  rw [if_neg h10, if_neg h10]
  by_cases h11 : v = 11
  · rw [if_pos h11, if_pos h11]
    exact sim_fin H0' (by omega) (y5.trans y6.symm)
  exfalso
  have : v.toInt = 0 ∨ v.toInt = 1 ∨ v.toInt = 2 ∨ v.toInt = 3 ∨ v.toInt = 4 ∨ v.toInt = 5 ∨ v.toInt = 6 ∨ v.toInt = 7 ∨ v.toInt = 8 ∨ v.toInt = 9 ∨ v.toInt = 10 ∨ v.toInt = 11 := by omega
  rcases this with h | h | h | h | h | h | h | h | h | h | h | h
  · exact h0 (ti_inj h)
  · exact h1 (ti_inj h)
  · exact h2 (ti_inj h)
  · exact h3 (ti_inj h)
  · exact h4 (ti_inj h)
  · exact h5 (ti_inj h)
  · exact h6 (ti_inj h)
  · exact h7 (ti_inj h)
  · exact h8 (ti_inj h)
  · exact h9 (ti_inj h)
  · exact h10 (ti_inj h)
  · exact h11 (ti_inj h)
theorem who_L {hT : Nat → Int32} {v1 v2 : Int32} (h1 : A.1 12 1 = Int32.ofNat nh) (h2 : B.1 41 25 = Int32.ofNat nh) (h6 : nh ≤ 6) (h3 : ∀ k, k < 5 * nh → A.1 13 (24 + k) = B.1 48 k) : ∀ (m i f : Nat) (a : Int32), i + m = nh → m < f → ∃ x, f_X11_who_L34 (fun q17 _ S16 => some (q17, S16)) v1 v2 f a (Int32.ofNat i) A = some (x, A) ∧ f_X12_who_L43 (fun q19 _ S18 => some (q19, S18)) v1 v2 f a (Int32.ofNat i) B = some (x, B) := by
  intro m
  induction m with
  | zero =>
    intro i f a hi hf
    obtain ⟨f, rfl⟩ : ∃ g, f = g + 1 := ⟨f - 1, by omega⟩
    have hi : i = nh := by omega
    subst hi
    unfold f_X11_who_L34 f_X12_who_L43
    rw [h1, h2, if_pos (Int32.le_refl _), if_pos (Int32.le_refl _)]
    exact ⟨a, rfl, rfl⟩
  | succ m ih =>
    intro i f a hi hf
    obtain ⟨f, rfl⟩ : ∃ g, f = g + 1 := ⟨f - 1, by omega⟩
    have hlt : ¬ Int32.ofNat nh ≤ Int32.ofNat i := fun q => by rw [io_le (by omega) (by omega)] at q; omega
    unfold f_X11_who_L34 f_X12_who_L43
    rw [h1, h2, if_neg hlt, if_neg hlt, c_item1_0 (by omega), zbE]
    simp (disch := omega) only [zlE, ix_m5, io_in, io_cl, if_true, io_sc, h3 (5 * i) (by omega)]
    by_cases hq : v2 < (if 0 ≤ ((B.1 48 (5 * i)) / 2) - v1 then ((B.1 48 (5 * i)) / 2) - v1 else 0 - (((B.1 48 (5 * i)) / 2) - v1))
    · rw [if_pos hq, if_pos hq, Int32.or_zero]
      exact ih (i + 1) f a (by omega) (by omega)
    · rw [if_neg hq, if_neg hq]
      exact ih (i + 1) f _ (by omega) (by omega)
theorem op_who (H : InvD 0 M nj nh nt A B) (hM : M < 900000) (v1 v2 : Int32) : Sim M (f_X11_who v1 v2 A) (f_X12_who v1 v2 B) := by
  have H0 := H.thr 0
  unfold f_X11_who f_X12_who
  rw [zlE]
  generalize sV B 41 0 0 = B0 at H0 ⊢
  have e0 : (0 : Int64).toInt = 0 := by decide
  have e9 : (99 : Int64).toInt = 99 := by decide
  have f9 : (99 : Int32).toInt = 99 := by decide
  rw [if_rng, if_rng', ti_0, f9]
  simp only [r_isIn, zbE, e0, e9]
  rcases nj_0 H0.told with ⟨-, e1, e2⟩ | ⟨hn, e1, e2⟩
  · rw [e1, e2, if_pos rfl, if_pos rfl]
    exact Sim.no H0 _
  rw [if_neg e1, if_neg e2]
  by_cases hv : 0 ≤ v1.toInt ∧ v1.toInt ≤ 99
  case neg =>
    rw [if_neg hv, if_neg hv, if_pos rfl]
    exact Sim.no H0 _
  rw [if_pos hv, if_pos hv, if_neg n10]
  by_cases hw : 0 ≤ v2.toInt ∧ v2.toInt ≤ 99
  case neg =>
    rw [if_neg hw, if_neg hw, if_neg n00]
    exact Sim.no H0 _
  rw [if_pos hw, if_pos hw, if_pos n10]
  obtain ⟨t1, t2, t3, t4, t5, t6, t7, t8, t9, t10, t11⟩ := H0.told
  obtain ⟨x, x1, x2⟩ := who_L (hT := fun _ => 0) (v1 := v1) (v2 := v2) t2 t5 t11.2.1 t9 nh 0 zN 0 (by omega) (by have := t11.2.1; unfold zN; omega)
  exact ⟨x, A, B0, x1, x2, H0.sim⟩
theorem left_L (h1 : A.1 12 0 = Int32.ofNat nj) (h2 : B.1 41 24 = Int32.ofNat nj) (h6 : nj ≤ 4) (h3 : ∀ k, k < 6 * nj → A.1 13 k = B.1 46 k) : ∀ (m i f : Nat) (a : Int32), i + m = nj → m < f → ∃ x, f_X11_lefties_L13 (fun q17 _ S16 => some (q17, S16)) f a (Int32.ofNat i) A = some (x, A) ∧ f_X12_lefties_L18 (fun q19 _ S18 => some (q19, S18)) f a (Int32.ofNat i) B = some (x, B) := by
  intro m
  induction m with
  | zero =>
    intro i f a hi hf
    obtain ⟨f, rfl⟩ : ∃ g, f = g + 1 := ⟨f - 1, by omega⟩
    have hi : i = nj := by omega
    subst hi
    unfold f_X11_lefties_L13 f_X12_lefties_L18
    rw [h1, h2, if_pos (Int32.le_refl _), if_pos (Int32.le_refl _)]
    exact ⟨a, rfl, rfl⟩
  | succ m ih =>
    intro i f a hi hf
    obtain ⟨f, rfl⟩ : ∃ g, f = g + 1 := ⟨f - 1, by omega⟩
    have hlt : ¬ Int32.ofNat nj ≤ Int32.ofNat i := fun q => by rw [io_le (by omega) (by omega)] at q; omega
    unfold f_X11_lefties_L13 f_X12_lefties_L18
    rw [h1, h2, if_neg hlt, if_neg hlt, c_item0_3 (by omega), zbE]
    simp (disch := omega) only [zlE, ix_m6, ix_p3, io_in, io_cl, if_true, io_sc, h3 (6 * i + 3) (by omega)]
    exact ih (i + 1) f _ (by omega) (by omega)
theorem op_lefties (H : InvD 0 M nj nh nt A B) (hM : M < 900000) : Sim M (f_X11_lefties A) (f_X12_lefties B) := by
  have H0 := H.thr 0
  unfold f_X11_lefties f_X12_lefties
  rw [zlE]
  generalize sV B 41 0 0 = B0 at H0 ⊢
  rcases nj_0 H0.told with ⟨-, e1, e2⟩ | ⟨hn, e1, e2⟩
  · rw [e1, e2, if_neg n00, if_neg n00]
    exact Sim.no H0 _
  rw [if_pos e1, if_pos e2]
  obtain ⟨t1, t2, t3, t4, t5, t6, t7, t8, t9, t10, t11⟩ := H0.told
  obtain ⟨x, x1, x2⟩ := left_L t1 t4 t11.1 t8 nj 0 zN 0 (by omega) (by have := t11.1; unfold zN; omega)
  exact ⟨x, A, B0, x1, x2, H0.sim⟩
end MT
