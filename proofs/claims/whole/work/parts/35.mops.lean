/-! Laws that hold, steps, the tape's end, what was tried, counts. -/
section MR
variable {d M nj nh nt : Nat} {A B : zS}
theorem op_law (H : InvD 0 M nj nh nt A B) (hM : M < 900000) (v : Int32) : Sim M (f_X11_law v A) (f_X12_law v B) := by
  have H0 := H.thr 0
  unfold f_X11_law f_X12_law
  simp only [zlE]
  generalize sV B 41 0 0 = B0 at H0 ⊢
  rcases nj_0 H0.told with ⟨-, e1, e2⟩ | ⟨hn, e1, e2⟩
  · rw [e1, e2, if_pos rfl, if_pos rfl]
    exact Sim.no H0 _
  rw [if_neg e1, if_neg e2]
  have H0' := H0
  obtain ⟨u, h1, h2, ⟨W, w1, w2⟩, ⟨nl, l0, l1, l2, l3, l4⟩, h5, h6, h7, h8, h9, h10, h11, h12, h13, h14⟩ := H0
  have e0 : (0 : Int64).toInt = 0 := by decide
  have el : ((Int32.ofNat nl - 1).toInt64).toInt = (nl : Int) - 1 := by
    rw [Int32.toInt_toInt64, ti_sub (by rw [ti_nat (by omega), ti_1]; omega), ti_nat (by omega), ti_1]
  rw [l1, l2, r_isIn, e0, el, zbE]
  have fin : ∀ (x : Int32) (w : Value), (∃ W, HeldC (sK (sV A 0 16 x) 14 2 w) W ∧ HeldR (sV B0 41 35 x) W) → ((x = -1) ∨ ∃ i, i < nl ∧ x = Int32.ofNat i) → Sim M (some (1, sK (sV A 0 16 x) 14 2 w)) (some (1, sV B0 41 35 x)) := by
    intro x w hW hx
    refine sim_fin (M' := M) (nj := nj) (nh := nh) (nt := nt) ?_ (by omega) rfl
    have a0 : ∀ k, k ≠ 16 → (sV A 0 16 x).1 0 k = A.1 0 k := fun k hk => by rw [sV_eq, sR_at, ru_ne hk]
    have b41 : ∀ k, k ≠ 35 → (sV B0 41 35 x).1 41 k = B0.1 41 k := fun k hk => by rw [sV_eq, sR_at, ru_ne hk]
    have ar : ∀ b, b ≠ 0 → (sK (sV A 0 16 x) 14 2 w).1 b = A.1 b := fun b hb => by rw [sK_1, sV_eq, sR_ne _ _ hb]
    have k2 : ∀ b k, b ≠ 14 → (sK (sV A 0 16 x) 14 2 w).2.1 b k = A.2.1 b k := fun b k hb => by rw [sK_g, if_neg (fun q => hb q.1)]; rfl
    refine ⟨u, h1, h2, hW, ⟨nl, l0, ?_, ?_, fun i hi => ?_, ?_⟩, h5.of ?_ rfl (fun b hb => ar b (by omega)) (fun k => k2 40 k (by decide)) ?_ (fun _ _ => rfl) (fun _ _ => rfl), h6, h7, h8, h9, h10, h11, h12, ?_, h14⟩
    · exact (a0 14 (by decide)).trans l1
    · exact (b41 7 (by decide)).trans l2
    · obtain ⟨a, cs, z1, z2, z3, z4⟩ := l3 i hi
      exact ⟨a, cs, (k2 39 i (by decide)).trans z1, z2.of (ar a (by have := z2.1; omega)) rfl, z3, z4.of rfl rfl⟩
    · have q1 : (sK (sV A 0 16 x) 14 2 w).1 0 16 = x := by rw [sK_1, sV_eq, sR_at, ru_at]
      have q2 : (sV B0 41 35 x).1 41 35 = x := by rw [sV_eq, sR_at, ru_at]
      rw [q1, q2]
      rcases hx with hx | ⟨i, hi, hx⟩
      · exact Or.inl ⟨hx, hx⟩
      · exact Or.inr ⟨i, hi, hx, hx⟩
    · exact a0 15 (by decide)
    · exact b41 32 (by decide)
    · obtain ⟨y, hy⟩ := h13
      exact ⟨y, (k2 0 18 (by decide)).trans hy⟩
  have lm : ∀ w : Int32, w < -1 ↔ w.toInt < -1 := fun w => by rw [Int32.lt_iff_toInt_lt, ti_n1]
  by_cases hm : v = -1
  · subst hm
    have q1 : ¬ ((-1 : Int32) < -1) := by decide
    have q2 : (-1 : Int32) < Int32.ofNat nl := by rw [Int32.lt_iff_toInt_lt, ti_n1, ti_nat (by omega)]; omega
    rw [if_neg q1, if_pos q2, if_neg (fun q => q rfl), if_pos rfl]
    refine fin (-1) .null ⟨plainW, Or.inl ⟨?_, rfl⟩, Or.inl ⟨?_, rfl⟩⟩ (Or.inl rfl)
    · rw [sK_g, if_pos ⟨rfl, rfl⟩]
    · rw [sV_eq, sR_at, ru_at]
  · rw [if_neg hm]
    rcases idx v nl (by omega) with ⟨i, hi, rfl⟩ | h
    · have q1 : ¬ Int32.ofNat i < -1 := fun q => by rw [lm, ti_nat (by omega)] at q; omega
      have q2 : Int32.ofNat i < Int32.ofNat nl := (io_lt (by omega) (by omega)).mpr hi
      have q3 : 0 ≤ (Int32.ofNat i).toInt ∧ (Int32.ofNat i).toInt ≤ (nl : Int) - 1 := by rw [ti_nat (by omega)]; omega
      obtain ⟨a, cs, z1, z2, z3, z4⟩ := l3 i hi
      have zk : (sV A 0 16 (Int32.ofNat i)).2.1 39 (Int32.ofNat i).toNatClampNeg = .ref a := by rw [io_cl (by omega)]; exact z1
      rw [if_neg q1, if_pos q2, if_pos hm, if_pos (io_in (by omega) (by omega)), if_pos q3, if_pos n10, zk]
      show Sim M (if 64 ≤ a ∧ a < A.2.2.2 then _ else none) _
      rw [if_pos ⟨z2.1, z2.2.1⟩]
      refine fin (Int32.ofNat i) (.ref a) ⟨codeW cs, Or.inr ⟨a, cs, ?_, z2.of ?_ rfl, z3, rfl⟩, Or.inr ⟨i, cs, by omega, ?_, z4.of rfl rfl, rfl⟩⟩ (Or.inr ⟨i, hi, rfl⟩)
      · rw [sK_g, if_pos ⟨rfl, rfl⟩]
      · rw [sK_1, sV_eq, sR_ne _ _ (by have := z2.1; omega)]
      · rw [sV_eq, sR_at, ru_at]
    · have q3 : ¬ (0 ≤ v.toInt ∧ v.toInt ≤ (nl : Int) - 1) := by omega
      rw [if_neg q3, if_neg n00]
      by_cases h0 : v < -1
      · rw [if_pos h0]
        exact Sim.no H0' _
      · have h2 : ¬ v < Int32.ofNat nl := fun q => by
          rw [Int32.lt_iff_toInt_lt, ti_nat (by omega)] at q
          rw [lm] at h0
          have : v.toInt = -1 := by omega
          exact hm (ti_inj (this.trans ti_n1.symm))
        rw [if_neg h0, if_neg h2]
        exact Sim.no H0' _
theorem op_step (H : InvD 0 M nj nh nt A B) (hM : M < 900000) (v1 v2 : Int32) : Sim M (f_X11_step v1 v2 A) (f_X12_step v1 v2 B) := by
  have H0 := H.thr 0
  unfold f_X11_step f_X12_step f_X11_stepsOf
  rw [zlE]
  generalize sV B 41 0 0 = B0 at H0 ⊢
  have H0' := H0
  obtain ⟨u, h1, h2, h3, h4, ⟨np, p0, p1, p2, p3⟩, -⟩ := H0
  have e0 : (0 : Int64).toInt = 0 := by decide
  have el : ∀ n : Nat, n < 1000000 → ((Int32.ofNat n - 1).toInt64).toInt = (n : Int) - 1 := fun n hn => by
    rw [Int32.toInt_toInt64, ti_sub (by rw [ti_nat (by omega), ti_1]; omega), ti_nat (by omega), ti_1]
  rw [p1, p2, r_isIn, e0, el np (by omega), zbE]
  rcases idx v1 np (by omega) with ⟨p, hp, rfl⟩ | h
  · have q0 : ¬ Int32.ofNat p < 0 := fun q => by rw [i_lt0, ti_nat (by omega)] at q; omega
    have q1 : ¬ Int32.ofNat np ≤ Int32.ofNat p := fun q => by rw [io_le (by omega) (by omega)] at q; omega
    have q3 : 0 ≤ (Int32.ofNat p).toInt ∧ (Int32.ofNat p).toInt ≤ (np : Int) - 1 := by rw [ti_nat (by omega)]; omega
    obtain ⟨a, m, z1, z2, z3, z4, z5, z6, z7, z8⟩ := p3 p hp
    rw [if_neg q0, if_neg q1, if_pos (io_in (by omega) (by omega)), if_pos q3, if_neg n10, if_pos (io_in (by omega) (by omega)), io_cl (by omega), z1, z7, r_isIn, e0, el m (by omega), zbE]
    show Sim M (zb (if 64 ≤ a ∧ a < A.2.2.2 then _ else none) _) _
    rw [if_pos ⟨z2, z3⟩, zbE]
    show Sim M (if 64 ≤ a ∧ a < A.2.2.2 then _ else none) _
    rw [if_pos ⟨z2, z3⟩, z6]
    rcases idx v2 m (by omega) with ⟨i, hi, rfl⟩ | h
    · have r0 : ¬ Int32.ofNat i < 0 := fun q => by rw [i_lt0, ti_nat (by omega)] at q; omega
      have r1 : Int32.ofNat i < Int32.ofNat m := (io_lt (by omega) (by omega)).mpr hi
      have r3 : 0 ≤ (Int32.ofNat i).toInt ∧ (Int32.ofNat i).toInt ≤ (m : Int) - 1 := by rw [ti_nat (by omega)]; omega
      rw [if_neg r0, if_pos r1, if_pos (io_in (by omega) (by omega)), if_pos r3, if_neg n10]
      simp (disch := omega) only [ix_m16, ix_aa, io_in, io_cl, if_true]
      exact sim_fin H0' (by omega) (z8 i hi).1
    · have r3 : ¬ (0 ≤ v2.toInt ∧ v2.toInt ≤ (m : Int) - 1) := by omega
      rw [if_neg r3, if_pos rfl]
      by_cases h0 : v2 < 0
      · rw [if_pos h0]
        exact Sim.no H0' _
      · have r1 : ¬ v2 < Int32.ofNat m := fun q => by
          rw [Int32.lt_iff_toInt_lt, ti_nat (by omega)] at q
          rw [i_lt0] at h0
          omega
        rw [if_neg h0, if_neg r1]
        exact Sim.no H0' _
  · have q3 : ¬ (0 ≤ v1.toInt ∧ v1.toInt ≤ (np : Int) - 1) := by omega
    rw [if_neg q3, if_pos rfl]
    by_cases h0 : v1 < 0
    · rw [if_pos h0, zbE]
      exact Sim.no H0' _
    · rw [if_neg h0, if_pos ((i_le0 (by omega)).mpr (by rw [i_lt0] at h0; omega)), zbE]
      exact Sim.no H0' _
/-- another tape -/
theorem InvD.tape (H : InvD 0 M nj nh nt A B) {x y : Int32} {f g : Nat → Int32} (h : ITape x f y g) : InvD 0 M nj nh nt (sR (sV A 1 1 x) 2 f) (sR (sV B 41 6 y) 42 g) := by
  obtain ⟨u, h1, h2, ⟨W, w1, w2⟩, h4, h5, h6, h7, h8, h9, h10, h11, h12, h13, h14⟩ := H
  have a1 : ∀ b, b ≠ 1 → b ≠ 2 → (sR (sV A 1 1 x) 2 f).1 b = A.1 b := fun b hb hc => by rw [sR_ne _ _ hc, sV_eq, sR_ne _ _ hb]
  have b41 : ∀ k, k ≠ 6 → (sR (sV B 41 6 y) 42 g).1 41 k = B.1 41 k := fun k hk => by rw [sR_ne _ _ (by decide), sV_eq, sR_at, ru_ne hk]
  refine ⟨u, h1, ?_, ⟨W, w1.of rfl rfl (fun b hb => a1 b (by omega) (by omega)), w2.of rfl rfl rfl⟩, h4.of rfl rfl rfl (fun b hb => a1 b (by omega) (by omega)) (fun _ => rfl) rfl rfl rfl rfl, h5.of rfl rfl (fun b hb => a1 b (by omega) (by omega)) (fun _ => rfl) rfl (fun _ _ => rfl) (fun _ _ => rfl), h6, h7, h8, h9, h10, h11, h12, h13, h14⟩
  have q1 : (sR (sV A 1 1 x) 2 f).1 1 1 = x := by rw [sR_ne _ _ (by decide), sV_eq, sR_at, ru_at]
  have q2 : (sR (sV B 41 6 y) 42 g).1 41 6 = y := by rw [sR_ne _ _ (by decide), sV_eq, sR_at, ru_at]
  rw [q1, q2, sR_at, sR_at]
  exact h
theorem op_end (H : InvD 0 M nj nh nt A B) (hM : M < 900000) (v : Int32) : Sim M (f_X11_end v A) (f_X12_end v B) := by
  have H0 := H.thr 0
  unfold f_X11_end f_X12_end
  simp only [zlE]
  generalize sV B 41 0 0 = B0 at H0 ⊢
  have H0' := H0
  obtain ⟨u, h1, ⟨n, a0, a1, a2, a3⟩, -⟩ := H0
  rw [a1, a2]
  by_cases h0 : v < 0
  · rw [if_pos h0, if_pos h0]
    exact Sim.no H0' _
  rw [if_neg h0, if_neg h0]
  by_cases h2 : v ≤ Int32.ofNat n
  · rw [if_pos h2, if_pos h2]
    rw [i_lt0] at h0
    rw [Int32.le_iff_toInt_le, ti_nat (by omega)] at h2
    have ev : v = Int32.ofNat v.toInt.toNat := ti_ofn (by omega)
    have t := H0'.tape (x := v) (y := v) (f := A.1 2) (g := B0.1 42) ⟨v.toInt.toNat, by omega, ev, ev, fun k hk => a3 k (by omega)⟩
    have e1 : sR (sV A 1 1 v) 2 (A.1 2) = sV A 1 1 v := by
      have := sR_self (sV A 1 1 v) 2
      rw [show (sV A 1 1 v).1 2 = A.1 2 by rw [sV_eq, sR_ne _ _ (by decide)]] at this
      exact this
    have e2 : sR (sV B0 41 6 v) 42 (B0.1 42) = sV B0 41 6 v := by
      have := sR_self (sV B0 41 6 v) 42
      rw [show (sV B0 41 6 v).1 42 = B0.1 42 by rw [sV_eq, sR_ne _ _ (by decide)]] at this
      exact this
    rw [e1, e2] at t
    exact sim_fin t (by omega) rfl
  · rw [if_neg h2, if_neg h2]
    exact Sim.no H0' _
end MR
