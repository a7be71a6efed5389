/-! Shutting, undoing, images, the log. -/
section MO
variable {d M nj nh nt : Nat} {A B : zS}
theorem r_shut80 {tb : Nat} {ex : Int32 → zS → Option (Int32 × zS)} {x y : Int32} {r : Nat → Int32} (hT : r 64 = Int32.ofNat tb) (hb : tb < 4) (hn : B.1 41 25 = Int32.ofNat nh) (h4 : nh ≤ 6) : ∀ (m i f : Nat), i + m = nh → m < f → f_X12_shut_L80 ex x y f (Int32.ofNat i) (sR B 54 (closeL loR tb i r)) = ex (Int32.ofNat nh) (sR B 54 (closeL loR tb nh r)) := by
  have ht : ∀ i, i ≤ 6 → closeL loR tb i r 64 = Int32.ofNat tb := by
    intro i
    induction i with
    | zero => intro _; exact hT
    | succ i ih => intro hi; unfold closeL; rw [ru_ne (by unfold loR; omega)]; exact ih (by omega)
  intro m
  induction m with
  | zero =>
    intro i f hi hf
    obtain ⟨f, rfl⟩ : ∃ g, f = g + 1 := ⟨f - 1, by omega⟩
    have hi : i = nh := by omega
    subst hi
    unfold f_X12_shut_L80
    rw [sR_ne _ _ (by omega), hn, if_pos (Int32.le_refl _)]
  | succ m ih =>
    intro i f hi hf
    obtain ⟨f, rfl⟩ : ∃ g, f = g + 1 := ⟨f - 1, by omega⟩
    unfold f_X12_shut_L80
    rw [sR_ne _ _ (by omega), hn, if_neg (fun q => by rw [io_le (by omega) (by omega)] at q; omega)]
    rw [← ih (i + 1) f (by omega) (by omega), sR_at, ht i (by omega)]
    simp (disch := omega) only [closeL, loR, zlE, zbE, sV_eq, sR_at, sR_sR, sR_ne, ru_at, ru_ne, um, m0, io_in, io_cl, eq_self, if_true, ite_true, ix_m4, ix_k40, ix_aa, io_sc]
theorem r_shut80z {tb : Nat} {ex : Int32 → zS → Option (Int32 × zS)} {x y : Int32} {r : Nat → Int32} (hT : r 64 = Int32.ofNat tb) (hb : tb < 4) (hn : B.1 41 25 = Int32.ofNat nh) (h4 : nh ≤ 6) {z : Int32} (hz : z = Int32.ofNat 0) : f_X12_shut_L80 ex x y zN z (sR B 54 r) = ex (Int32.ofNat nh) (sR B 54 (closeL loR tb nh r)) := by
  subst hz
  exact r_shut80 (r := r) hT hb hn h4 nh 0 zN (by omega) (by unfold zN; omega)
theorem op_shut (H : InvD 0 M nj nh nt A B) (hM : M < 900000) (v : Int32) : Sim M (f_X11_shut v A) (f_X12_shut v B) := by
  have H0 := H.thr 0
  unfold f_X11_shut f_X12_shut
  rw [zlE]
  generalize sV B 41 0 0 = B0 at H0 ⊢
  obtain ⟨t1, t2, t3, t4, t5, t6, t7, t8, t9, t10, t11⟩ := H0.told
  have n4 := t11.1
  have n6 := t11.2.1
  obtain ⟨tb, b1, b2, b3, b4⟩ := H0.tab
  rw [b4, zlE]
  rcases isHand2 t2 t5 (by omega) v with ⟨h, hh, rfl, e2, e3⟩ | ⟨e2, e3⟩
  case inr =>
    rw [e2, e3, zbE, zbE, if_pos rfl, if_pos rfl]
    exact Sim.no H0 _
  rw [e2, e3, zbE, zbE, if_neg n10, if_neg n10, c_lid (x := 5) (c := 5) b3 b1 (by omega) rfl, zbE]
  simp (disch := omega) only [ix_m7, ix_p5, ix_p1, ix_m2, ix_k28, io_in, io_cl, if_true]
  rw [← H0.row.1.pl (k := 7 * tb + 5) (by omega)]
  by_cases ho : A.1 18 (7 * tb + 5) = 0
  · have hn : ¬ ¬ A.1 18 (7 * tb + 5) = 0 := fun q => q ho
    rw [if_neg hn, if_neg hn]
    exact Sim.no H0 _
  rw [if_pos ho, if_pos ho]
  obtain ⟨A1, B1, k1, k2, H1, fA, fB⟩ := keep_ok H0
  have b3' : A1.1 18 64 = Int32.ofNat tb := by rw [fA.2 18 (by decide) (by decide)]; exact b3
  have b4' : B1.1 54 64 = Int32.ofNat tb := by rw [fB.2.1 54 (by decide) (by decide)]; exact b4
  obtain ⟨s1, s2, s3, s4, s5, s6, s7, s8, s9, s10, s11⟩ := H1.told
  rw [k1, zbE, k2, zbE, c_close (o := 17) (by decide) b3' b1 (h := h) (by omega) s2 n6, zbE]
  simp (disch := omega) only [zlE, sV_eq, sR_at, sR_sR, ru_ne]
  rw [r_shut80z (tb := tb) (z := 0) (by simp (disch := omega) only [ru_ne]; exact b4') b1 s5 n6 rfl]
  have hr : IRow (B1.1 46) nj (M + 1) (closeM loC nh tb h (A1.1 18)) (closeM loR nh tb h (B1.1 54)) :=
    ⟨H1.row.1.close b1 (by omega) n6, H1.row.2.close (by omega) (fun i hi => loC_in b1 hi) b1 (by omega) n6⟩
  obtain ⟨A3, B3, n1, n2, H3, g1, g2, -, -⟩ := act_end H1 (sameC.rfl' _) (sameR.rfl' _) (by omega) hr (20 + Int32.ofNat h)
  have eq54 : ru (closeL loR tb nh (ru (ru (ru (B1.1 54) (7 * tb + 5) 0) (7 * tb + 1) (B1.1 54 (28 + 2 * h) / 2)) (7 * tb) 0)) 65 (closeL loR tb nh (ru (ru (ru (B1.1 54) (7 * tb + 5) 0) (7 * tb + 1) (B1.1 54 (28 + 2 * h) / 2)) (7 * tb) 0) 65 + 1) = closeM loR nh tb h (B1.1 54) := rfl
  rw [sR_at, sR_sR, eq54, c_minute, zbE, sR_at, n1, zbE, n2, zbE]
  refine act_hold b1 H3 (by omega) ?_
  rw [g1]
  have c64 : ∀ (r : Nat → Int32) i, i ≤ 6 → closeL loC tb i r 64 = r 64 := by
    intro r i
    induction i with
    | zero => intro _; rfl
    | succ i ih => intro hi; unfold closeL; rw [ru_ne (by unfold loC; omega)]; exact ih (by omega)
  unfold closeM
  rw [um_ne (by decide), c64 _ _ n6]
  simp (disch := omega) only [ru_ne]
  exact b3'
theorem r_undo26 {u : Nat} {ex : Int32 → zS → Option (Int32 × zS)} (h1 : B.1 41 39 = Int32.ofNat u) (h2 : u < 40) : ∀ (m i f : Nat), i + m = 66 → m < f → f_X12_undo_L26 ex f (Int32.ofNat i) (sR B 54 (cpy (B.1 56) (B.1 54) (66 * u) 0 i)) = ex 66 (sR B 54 (cpy (B.1 56) (B.1 54) (66 * u) 0 66)) := by
  intro m
  induction m with
  | zero =>
    intro i f hi hf
    obtain ⟨f, rfl⟩ : ∃ g, f = g + 1 := ⟨f - 1, by omega⟩
    have hi : i = 66 := by omega
    subst hi
    unfold f_X12_undo_L26
    exact if_pos (Int32.le_refl _)
  | succ m ih =>
    intro i f hi hf
    obtain ⟨f, rfl⟩ : ∃ g, f = g + 1 := ⟨f - 1, by omega⟩
    have e2 : ru (cpy (B.1 56) (B.1 54) (66 * u) 0 i) i (B.1 56 (66 * u + i)) = cpy (B.1 56) (B.1 54) (66 * u) 0 (i + 1) := by
      funext k
      unfold ru cpy
      by_cases c : k = i
      · subst c
        rw [if_pos rfl, if_pos (by omega)]
        rfl
      · rw [if_neg c]
        by_cases c2 : 0 ≤ k ∧ k < 0 + i
        · rw [if_pos c2, if_pos (by omega)]
        · rw [if_neg c2, if_neg (by omega)]
    have h66 : ¬ (66 : Int32) ≤ Int32.ofNat i := fun q => by have := (io_le (a := 66) (b := i) (by omega) (by omega)).mp q; omega
    unfold f_X12_undo_L26
    rw [if_neg h66, sR_ne _ (b := 41) _ (by decide), h1]
    simp (disch := omega) only [ix_m66, ix_aa, io_in, io_cl, if_true, zlE, sV_eq, sR_at, sR_sR, sR_ne, e2, io_sc]
    exact ih (i + 1) f (by omega) (by omega)
theorem r_undo26z {u : Nat} {ex : Int32 → zS → Option (Int32 × zS)} (h1 : B.1 41 39 = Int32.ofNat u) (h2 : u < 40) {z : Int32} (hz : z = Int32.ofNat 0) : f_X12_undo_L26 ex zN z B = ex 66 (sR B 54 (cpy (B.1 56) (B.1 54) (66 * u) 0 66)) := by
  subst hz
  have e := r_undo26 (B := B) (u := u) (ex := ex) h1 h2 66 0 zN (by omega) (by unfold zN; omega)
  have e0 : cpy (B.1 56) (B.1 54) (66 * u) 0 0 = B.1 54 := by funext k; exact cpy_out (by omega)
  rw [e0, sR_self] at e
  exact e
theorem io_m1 {n : Nat} (h : 0 < n) : Int32.ofNat n - 1 = Int32.ofNat (n - 1) := by
  have := Int32.ofNat_sub n 1 (by omega)
  exact this.symm
theorem c_takeBack {r u r2 l : Nat} (h1 : A.1 21 5 = Int32.ofNat r) (h2 : r < 40) (h3 : A.1 21 6 = Int32.ofNat u) (h4 : u ≤ 40) (h0 : 0 < u) (g1 : A.1 21 7 = Int32.ofNat r2) (g2 : r2 < 60) (g3 : A.1 21 8 = Int32.ofNat l) (g4 : l ≤ 60) (g0 : 0 < l) :
    f_X1_takeBack_17 A = some (Int32.ofNat (u - 1), sR (sR A 18 (cpy (A.1 22) (A.1 18) (66 * ((r + 39) % 40)) 0 66)) 21 (ru (ru (ru (ru (A.1 21) 5 (Int32.ofNat ((r + 39) % 40))) 6 (Int32.ofNat (u - 1))) 7 (Int32.ofNat ((r2 + 59) % 60))) 8 (Int32.ofNat (l - 1)))) := by
  have q0 : ¬ Int32.ofNat u = 0 := fun q => by have := (io_eq (a := u) (b := 0) (by omega) (by omega)).mp q; omega
  have a40 : Int32.ofNat r + 40 = Int32.ofNat (r + 40) := by rw [Int32.ofNat_add]; rfl
  have a60 : Int32.ofNat r2 + 60 = Int32.ofNat (r2 + 60) := by rw [Int32.ofNat_add]; rfl
  have p40 : Int32.ofNat (r + 40) - 1 = Int32.ofNat (r + 39) := by rw [io_m1 (by omega)]; rfl
  have p60 : Int32.ofNat (r2 + 60) - 1 = Int32.ofNat (r2 + 59) := by rw [io_m1 (by omega)]; rfl
  have e66 : ∀ n, Int32.ofNat n * 66 = Int32.ofNat (66 * n) := fun n => by rw [Int32.ofNat_mul, Int32.mul_comm]; rfl
  have e2 : ((66 : Int32).toNatClampNeg) = 66 := by decide
  have e3 : ((0 : Int32).toNatClampNeg) = 0 := by decide
  have e4 : (66 : Int32).toInt = 66 := by decide
  unfold f_X1_takeBack_17
  rw [h3, if_pos q0, h1, a40, p40, io_rem (m := 40) (n := 40) (by omega) rfl (by omega)]
  have m40 : (r + 39) % 40 < 40 := Nat.mod_lt _ (by decide)
  generalize (r + 39) % 40 = p at m40 ⊢
  simp only [zlE, sV_eq, sC_eq]
  rw [sR_at, ru_at, e66, io_cl (by omega), e2, e3, if_pos ⟨by rw [ti_nat (by omega)]; omega, by decide, by decide, by rw [ti_nat (by omega), e4]; omega, by decide⟩]
  simp (disch := decide) only [sR_at, sR_ne, sR_sR, ru_ne, ru_at, h3, g1, g3]
  rw [io_m1 h0, a60, p60, io_rem (m := 60) (n := 60) (by omega) rfl (by omega), io_m1 g0]
  rw [sR_cm _ _ _ (show (21 : Nat) ≠ 18 by decide), sR_sR]
  by_cases hl : 0 < l - 1
  · have : (0 : Int32) < Int32.ofNat (l - 1) := (io_lt (a := 0) (by omega) (by omega)).mpr hl
    rw [if_pos this]
  · have : ¬ (0 : Int32) < Int32.ofNat (l - 1) := fun q => hl ((io_lt (a := 0) (by omega) (by omega)).mp q)
    rw [if_neg this, show l - 1 = 0 by omega]
    rfl
theorem op_undo (H : InvD 0 M nj nh nt A B) (hM : M < 900000) : Sim M (f_X11_undo A) (f_X12_undo B) := by
  have H0 := H.thr 0
  unfold f_X11_undo f_X12_undo
  rw [zlE]
  generalize sV B 41 0 0 = B0 at H0 ⊢
  have H0' := H0
  obtain ⟨u, h1, h2, ⟨W, w1, w2⟩, h4, h5, h6, ⟨r, x1, x2, x3, x4, x5, x6⟩, ⟨r2, l, y1, y2, y3, y4, y5, y6, y7⟩, h9, h10, h11, h12, h13, h14⟩ := H0
  by_cases hu : u = 0
  · subst hu
    have eC : f_X1_takeBack_17 A = some (-1, A) := by
      unfold f_X1_takeBack_17
      rw [x4, if_neg (fun q => q rfl)]
    rw [eC, zbE, x5, if_neg (fun q => q rfl)]
    exact Sim.no H0' _
  · have q0 : ¬ Int32.ofNat u = 0 := fun q => by have := (io_eq (a := u) (b := 0) (by omega) (by omega)).mp q; omega
    rw [c_takeBack x3 x1 x4 x2 (by omega) y4 y1 y5 y2 (by omega), zbE, x5, if_pos q0]
    simp only [zlE, sV_eq]
    rw [io_m1 (by omega), r_undo26z (z := 0) (u := u - 1) (by rw [sR_at, ru_at]) (by omega) rfl]
    simp (disch := decide) only [sR_at, sR_ne, ru_ne, ru_at, y6]
    rw [io_m1 (by omega)]
    refine ⟨_, _, _, rfl, rfl, nj, nh, nt, InvD.mono (M := M) ?_ (by omega)⟩
    have k21 : ∀ k, k ≠ 5 → k ≠ 6 → k ≠ 7 → k ≠ 8 → (sR (sR A 18 (cpy (A.1 22) (A.1 18) (66 * ((r + 39) % 40)) 0 66)) 21 (ru (ru (ru (ru (A.1 21) 5 (Int32.ofNat ((r + 39) % 40))) 6 (Int32.ofNat (u - 1))) 7 (Int32.ofNat ((r2 + 59) % 60))) 8 (Int32.ofNat (l - 1)))).1 21 k = A.1 21 k := fun k k1 k2 k3 k4 => by
      rw [sR_at, ru_ne k4, ru_ne k3, ru_ne k2, ru_ne k1]
    refine ⟨u - 1, h1, h2, ⟨W, w1.of rfl rfl (fun b hb => by rw [sR_ne _ _ (by omega), sR_ne _ _ (by omega)]), w2.of rfl rfl rfl⟩, h4.of rfl rfl rfl (fun b hb => by rw [sR_ne _ _ (by omega), sR_ne _ _ (by omega)]) (fun _ => rfl) rfl rfl rfl rfl, h5.of rfl rfl (fun b hb => by rw [sR_ne _ _ (by omega), sR_ne _ _ (by omega)]) (fun _ => rfl) rfl (fun _ _ => rfl) (fun _ _ => rfl), ?_, ?_, ?_, h9, ?_, h11, h12, h13, h14⟩
    · have z := x6 0 (by omega)
      refine z.cg (fun k hk => ?_) (fun k hk => ?_)
      · show cpy (A.1 22) (A.1 18) (66 * ((r + 39) % 40)) 0 66 k = _
        have := cpy_in (f := A.1 22) (g := A.1 18) (sp := 66 * ((r + 39) % 40)) (dp := 0) hk
        rw [Nat.zero_add] at this
        rw [this]
        rfl
      · show cpy (B0.1 56) (B0.1 54) (66 * (u - 1)) 0 66 k = _
        have := cpy_in (f := B0.1 56) (g := B0.1 54) (sp := 66 * (u - 1)) (dp := 0) hk
        rw [Nat.zero_add] at this
        rw [this]
        rfl
    · refine ⟨(r + 39) % 40, by omega, by omega, ?_, ?_, ?_, fun i hi => ?_⟩
      · simp (disch := decide) only [sR_at, ru_ne, ru_at]
      · simp (disch := decide) only [sR_at, ru_ne, ru_at]
      · simp (disch := decide) only [sR_at, ru_ne, ru_at]
      · have z := x6 (i + 1) (by omega)
        rw [show (r + 39 - (i + 1)) % 40 = ((r + 39) % 40 + 39 - i) % 40 by omega, show u - 1 - (i + 1) = u - 1 - 1 - i by omega] at z
        exact z
    · refine ⟨(r2 + 59) % 60, l - 1, by omega, by omega, by omega, ?_, ?_, ?_, fun i hi => ?_⟩
      · simp (disch := decide) only [sR_at, ru_ne, ru_at]
      · simp (disch := decide) only [sR_at, ru_ne, ru_at]
      · simp (disch := decide) only [sR_at, ru_ne, ru_at]
      · have z := y7 (i + 1) (by omega)
        rw [show (r2 + 59 - (i + 1)) % 60 = ((r2 + 59) % 60 + 59 - i) % 60 by omega, show l - 1 - (i + 1) = l - 1 - 1 - i by omega] at z
        exact z
    · rw [k21 _ (by decide) (by decide) (by decide) (by decide)]
      exact h10
end MO
